/** Term II's LAWS and promises 11, 15, 34: each sentence that names a boundary, on both sides of it. */
public final class LawEdgeTest {
    public static void main(String[] args) {
        sixLawsAtMost();
        noneInForceAtFirst();
        forceTellsWhichWas();
        toldZeroToEight();
        weighsZeroToNinetyNine();
        oneWithout();
        theLastThatHolds();
        aClauseThatDoesNotHold();
        barredIfAnyHolds();
        nothingIsLeftOfAnEarlierLaw();
        askedOfWhom();
        askedAlikeInAnHour();
        wordsAtTheirEdges();
        knowsAndHourAsTheyAreThen();
        hoursBeyondTheLastInLaws();
        eachOfTwelveClauses();
        comparedByEachLaw();
        aLawLeavesWhatCanBeUndone();
        lawsOfImages();
        Due.end("LawEdgeTest");
    }

    /** Hat 0 (kind 1, 9 tall, knowing 0 and 7) and hat 1 (kind 3, 0 tall, knowing nothing). */
    private static TruthHats two() {
        TruthHats x = new TruthHats();
        x.hat(1, 9);
        x.hat(3, 0);
        x.think(0, 0);
        x.think(0, 7);
        return x;
    }

    private static TruthHats by(String law) {
        TruthHats x = two();
        Due.due("11: law \"" + law + "\"", Due.law(x, law), 0);
        x.force(0);
        return x;
    }

    private static void tells(String law, int due) {
        TruthHats x = by(law);
        Due.due("II: told by \"" + law + "\"", x.two(0, 1, 0), due);
        Due.due("34: compared by \"" + law + "\"", x.compare(0, 0, 1), due);
    }

    /** What thought 0 and thought 7 of hat 0 weigh together. */
    private static void weighs(String law, int due) {
        Due.due("II: weighed by \"" + law + "\"", by(law).of(0, 4), due);
    }

    private static void bars(String law, int thought, int due) {
        Due.due("II: thought " + thought + " barred by \"" + law + "\"", by(law).two(0, 1, 1 + thought), due);
    }

    /** II: "LAWS, 6 at most"; promise 11: "its number (0 on). -5". */
    private static void sixLawsAtMost() {
        TruthHats x = two();
        for (int i = 0; i < 6; i++) {
            int number = i;
            Due.due("39: LAWS ahead of law " + i, x.count(4), i);
            Due.due("34: compare() by one that is not there", x.compare(i, 0, 1), -1);
            Due.put(x, "tells " + (i + 2));
            Due.fine(x, "11: law number " + i, () -> x.law(), number);
        }
        Due.put(x, "tells 8");
        Due.refused(x, "11: a seventh law", () -> x.law(), -5);
        Due.due("39: LAWS", x.count(4), 6);
        Due.due("39: the TAPE is empty then, too", x.count(6), 0);
        for (int i = 0; i < 6; i++) {
            int number = i;
            Due.due("34: by law " + i, x.compare(i, 0, 1), i + 2);
            Due.fine(x, "15: force(" + i + ")", () -> x.force(number), i - 1);
            Due.due("4: by law " + i, x.two(0, 1, 0), i + 2);
        }
        Due.refused(x, "15: force(6)", () -> x.force(6), -2);
    }

    /** II: "one is in FORCE (NONE at first: no CLAUSE)", also when there is one. */
    private static void noneInForceAtFirst() {
        TruthHats x = two();
        Due.due("39: NONE", x.count(12), -1);
        Due.law(x, "tells 0; weighs 7; bars");
        Due.due("39: NONE behind law()", x.count(12), -1);
        Due.due("4: it TELLS one", x.two(0, 1, 0), 1);
        Due.due("4: none is BARRED", x.two(0, 1, 1), 0);
        Due.due("3: each WEIGHS one", x.of(0, 4), 2);
        Due.due("34: compare() by NONE", x.compare(-1, 0, 1), 1);
        x.force(0);
        Due.due("4: it TELLS none then", x.two(0, 1, 0), 0);
        Due.due("4: it is BARRED then", x.two(0, 1, 1), 1);
        Due.due("3: each WEIGHS seven then", x.of(0, 4), 14);
        Due.due("34: compare() by NONE then", x.compare(-1, 0, 1), 1);
        x.force(-1);
        Due.due("4: it TELLS one again", x.two(0, 1, 0), 1);
    }

    /** Promise 15: "A LAW is in FORCE (NONE: none): which was. -2." */
    private static void forceTellsWhichWas() {
        TruthHats x = new TruthHats();
        Due.fine(x, "15: force(-1) in a bare hall", () -> x.force(-1), -1);
        Due.refused(x, "15: force(0) without laws", () -> x.force(0), -2);
        Due.refused(x, "15: force(-2)", () -> x.force(-2), -2);
        Due.law(x, "bars");
        Due.refused(x, "15: force(1) of one", () -> x.force(1), -2);
        Due.fine(x, "15: force(0)", () -> x.force(0), -1);
        Due.fine(x, "15: force(0) again", () -> x.force(0), 0);
        Due.fine(x, "15: force(-1)", () -> x.force(-1), 0);
        Due.fine(x, "15: force(-1) again", () -> x.force(-1), -1);
        Due.due("39: the LAW in FORCE", x.count(12), -1);
    }

    /** II: "A HAT TELLS an OTHER 0 .. 8 THOUGHTS .. (else the nearest)". */
    private static void toldZeroToEight() {
        for (int n = 0; n <= 12; n++) {
            tells("tells " + n, Math.min(n, 8));
            tells("tells 0-" + n, 0);
        }
        tells("tells 1000*1000*1000", 8);
        tells("tells 0-1000*1000*1000", 0);
        tells("tells 256", 8);
        tells("tells 0-255", 0);
    }

    /** II: "a THOUGHT WEIGHS 0 .. 99" (else the nearest). */
    private static void weighsZeroToNinetyNine() {
        for (int n = 0; n <= 120; n++) {
            weighs("weighs " + n, 2 * Math.min(n, 99));
        }
        weighs("weighs 0-1", 0);
        weighs("weighs 0-100", 0);
        weighs("weighs 1000", 198);
        weighs("weighs 1000*1000*1000", 198);
        weighs("weighs 0-1000*1000*1000", 0);
        weighs("weighs thought*14+1", 1 + 99);
        weighs("weighs thought*15-5", 0 + 99);
    }

    /** II: "1 without", of "tells" and of "weighs": without such a CLAUSE, or one that HOLDS. */
    private static void oneWithout() {
        tells("bars", 1);
        tells("weighs 5", 1);
        tells("tells 5 if 1=2", 1);
        tells("tells 1/0", 1);
        tells("tells 5 if 1/0=1", 1);
        weighs("bars", 2);
        weighs("tells 5", 2);
        weighs("weighs 5 if 1=2", 2);
        weighs("weighs 1/0", 2);
        weighs("weighs 5 if thought=7", 1 + 5);
        weighs("weighs 10/thought", 1 + 1);
        weighs("weighs 70/thought", 1 + 10);
        bars("tells 0", 0, 0);
        bars("weighs 0", 0, 0);
    }

    /** II: "as the last "tells" that HOLDS tells": the later one, that of 0, too; behind it those that don't HOLD. */
    private static void theLastThatHolds() {
        tells("tells 5;tells 3", 3);
        tells("tells 3;tells 5", 5);
        tells("tells 5;tells 0", 0);
        tells("tells 5;weighs 3;bars", 5);
        tells("tells 5;tells 3 if 1=2", 5);
        tells("tells 5;tells 3/0", 5);
        tells("tells 5;tells 3 if 1/0=1;tells 9", 8);
        tells("tells 5;tells 3;tells 4 if 1=2;tells 1%0", 3);
        weighs("weighs 5;weighs 30", 60);
        weighs("weighs 5;weighs 0", 0);
        weighs("weighs 5;weighs 30 if thought=0", 35);
        weighs("weighs 5;weighs 30 if thought<8;weighs 2 if thought<0", 60);
        weighs("weighs 5;weighs 14/thought;tells 7;bars", 5 + 2);
    }

    /** II: "A CLAUSE HOLDS, if its "if" (if it has one) is so, and neither that nor its SUM is BROKEN." */
    private static void aClauseThatDoesNotHold() {
        tells("tells 5 if 1=1", 5);
        tells("tells 5 if 1=2", 1);
        tells("tells 5 if not 1=2", 5);
        tells("tells 5 if 1/0=1", 1);
        tells("tells 5 if not 1/0=1", 1);
        tells("tells 5/0 if 1=1", 1);
        tells("tells 5/0 if 1=2", 1);
        tells("tells 1000*1000*1000+1", 1);
        tells("tells 0-1000*1000*1000-1", 1);
        tells("tells 5 if 1=1 or 1/0=1", 5);
        bars("bars if 1=1", 0, 1);
        bars("bars if 1=2", 0, 0);
        bars("bars if 1/0=1", 0, 0);
        bars("bars if not 1/0=1", 0, 0);
        bars("bars if 1%thought<1", 0, 0);
        bars("bars if 1%thought=1", 7, 1);
    }

    /** II: "it is BARRED, if "bars" HOLDS": the first, the last or any between. */
    private static void barredIfAnyHolds() {
        String no = "bars if 1=2";
        for (int place = 0; place < 12; place++) {
            StringBuilder law = new StringBuilder();
            for (int i = 0; i < 12; i++) {
                law.append(i == 0 ? "" : ";").append(i == place ? "bars if thought=7" : no);
            }
            bars(law.toString(), 7, 1);
            bars(law.toString(), 6, 0);
        }
        bars("bars", 0, 1);
        bars("bars;" + no, 0, 1);
        bars("bars;bars if 1/0=1", 0, 1);
        bars(no + ";" + no, 0, 0);
        for (int thought = 0; thought < 8; thought++) {
            for (int other = 0; other < 8; other++) {
                bars("bars if thought=" + thought, other, thought == other ? 1 : 0);
            }
        }
    }

    /** II: ""bars"" has no SUM, whatever stood there in an earlier LAW: a THOUGHT is BARRED (1) or is not (0). */
    private static void nothingIsLeftOfAnEarlierLaw() {
        String[] earlier = {"tells 5", "weighs 5+5", "tells 2*3+4*5", "bars if 3=3", "tells 7 if 8=9"};
        String[] bars = {"bars if 0=0", "bars if 7=7", "bars if 0<5", "bars if [0-7]<0", "bars"};
        for (String law : earlier) {
            TruthHats x = two();
            Due.due("11: law \"" + law + "\"", Due.law(x, law), 0);
            for (int i = 0; i < bars.length; i++) {
                Due.due("11: law \"" + bars[i] + "\"", Due.law(x, bars[i]), i + 1);
                x.force(i + 1);
                Due.due("4: barred by \"" + bars[i] + "\" behind \"" + law + "\"", x.two(0, 1, 1), 1);
            }
        }
    }

    /** II: "tells" (thought -1), "bars" of all three, "weighs" (other, like -1). */
    private static void askedOfWhom() {
        tells("tells thought+5", 4);
        tells("tells 5 if thought=0-1", 5);
        tells("tells other+like", 4);
        weighs("weighs other+50", 98);
        weighs("weighs like+50", 98);
        weighs("weighs 9 if other=0-1 and like=0-1", 18);
        weighs("weighs thought*2+1", 1 + 15);
        bars("bars if hat=0 and other=1 and like=3 and thought=4", 4, 1);
        bars("bars if hat=0 and other=1 and like=3 and thought=4", 5, 0);
        bars("bars if thought<0", 0, 0);
        TruthHats x = by("tells hat*4+other+2;bars if hat>other");
        Due.due("II: a HAT and an OTHER", x.two(0, 1, 0), 3);
        Due.due("II: the other way round", x.two(1, 0, 0), 6);
        Due.due("II: barred from the one", x.two(1, 0, 8), 1);
        Due.due("II: not from the other", x.two(0, 1, 8), 0);
    }

    /** II: ""tells" is asked of a HAT and an OTHER (thought -1)", by an HOUR as by two() and compare(). */
    private static void askedAlikeInAnHour() {
        String[] laws = {"tells thought+3", "tells 2 if thought=0-1", "tells thought+3 if thought<0", "tells 0-thought*2",
            "tells 8;tells 2 if not thought>0-1 and not thought<0-1"};
        for (String law : laws) {
            TruthHats x = Halls.line(2, 4, 0, 3, 5, 7);
            Due.law(x, law);
            x.force(0);
            Due.due("4: it TELLS by \"" + law + "\"", x.two(0, 1, 0), 2);
            Due.due("28: how many it tells by \"" + law + "\"", x.talkative(1), 2);
            Due.due("21: an hour on by \"" + law + "\"", x.later(1, 1), 9);
            Due.due("19: learnt by \"" + law + "\"", x.pass(), 2);
            Due.due("3: what it KNOWS by \"" + law + "\"", x.of(1, 3), 9);
        }
    }

    /** II: "kind, tall: of the HAT; knows: how many THOUGHTS the HAT KNOWS; like: the KIND of the OTHER"; others. */
    private static void wordsAtTheirEdges() {
        tells("tells kind", 1);
        tells("tells tall-3", 6);
        tells("tells knows", 2);
        tells("tells like", 3);
        tells("tells hat", 0);
        tells("tells other", 1);
        tells("tells rain", 0);
        tells("tells hour", 0);
        TruthHats x = by("tells 0;tells 1 if hour=999;tells 2 if rain=9;tells 3 if hour=999 and rain=9");
        x.terms(0, 999);
        Due.due("II: hour 999", x.two(0, 1, 0), 1);
        x.terms(2, 9);
        Due.due("II: hour 999 and rain 9", x.two(0, 1, 0), 3);
        x.terms(0, 998);
        Due.due("II: rain 9", x.two(0, 1, 0), 2);
        TruthHats y = by("tells knows");
        Due.due("II: one that KNOWS none", y.two(1, 0, 0), 0);
        for (int thought = 0; thought < 8; thought++) {
            y.think(1, thought);
            Due.due("II: one that KNOWS " + (thought + 1), y.two(1, 0, 0), thought + 1);
        }
        TruthHats z = Halls.hats(7);
        Due.law(z, "tells hat;weighs hat*10+tall+kind");
        z.force(0);
        for (int hat = 0; hat < 7; hat++) {
            z.think(hat, 7 - hat);
            Due.due("II: hat " + hat, z.two(hat, (hat + 1) % 7, 0), hat);
            Due.due("II: what it WEIGHS", z.of(hat, 4), hat * 11 + hat % 4);
        }
    }

    /** II: "knows, hour: as they are then"; III: "all asked, all KNOWN as it was ahead". */
    private static void knowsAndHourAsTheyAreThen() {
        TruthHats x = Halls.line(2, 0, 0, 1, 2, 3);
        Due.law(x, "tells 1 if hour=0;tells 2 if hour=1;tells 0 if hour>1");
        x.force(0);
        Due.due("19: the first hour is asked as hour 0", x.pass(), 1);
        Due.due("19: the second as hour 1", x.pass(), 2);
        Due.due("19: the third as hour 2", x.pass(), 0);
        TruthHats y = Halls.line(3, 4, 0, 1, 2);
        Due.law(y, "tells 3 if knows=3;tells 0 if knows<3");
        y.force(0);
        Due.due("19: hat 1 knew none ahead of the first hour", y.pass(), 3);
        Due.due("3: hat 2 was told of none", y.of(2, 3), 0);
        Due.due("19: it KNOWS three ahead of the second", y.pass(), 3);
        Due.due("3: hat 2 was told of all", y.of(2, 3), 7);
        Due.due("20: undo()", y.undo(), 3);
        Due.due("21: later(2, 1), as all know again", y.later(2, 1), 7);
        Due.due("20: undo()", y.undo(), 3);
        Due.due("21: later(2, 1) then", y.later(2, 1), 0);
        Due.due("21: later(2, 2) then", y.later(2, 2), 7);
    }

    /** III: "(On paper, HOURS go on beyond 999, too:)": a law is asked of hour 1000 and more there. */
    private static void hoursBeyondTheLastInLaws() {
        TruthHats x = Halls.line(2, 0, 6);
        Due.law(x, "tells 0;tells 1 if hour=1000");
        x.force(0);
        x.terms(0, 999);
        Due.due("21: hour 999", x.later(1, 1), 0);
        Due.due("21: hour 1000", x.later(1, 2), 64);
        Due.due("22: learns(1, 6)", x.learns(1, 6), 2);
        Due.due("23: still()", x.still(), 2);
        Due.refused(x, "19: not by pass()", () -> x.pass(), -3);
        TruthHats y = Halls.line(2, 0, 6);
        Due.law(y, "tells 0;tells 1 if hour=1000+58");
        y.force(0);
        y.terms(0, 999);
        Due.due("22: in the 60th hour from 999", y.learns(1, 6), 60);
        Due.due("21: later(1, 59)", y.later(1, 59), 0);
        Due.due("21: later(1, 60)", y.later(1, 60), 64);
        Due.due("23: still()", y.still(), 60);
    }

    /** II: 12 CLAUSES: each of them can be the one that tells. */
    private static void eachOfTwelveClauses() {
        for (int place = 0; place < 12; place++) {
            StringBuilder law = new StringBuilder();
            for (int i = 0; i < 12; i++) {
                law.append(i == 0 ? "" : ";").append(i == place ? "tells 6" : "tells 7 if 1=2");
            }
            tells(law.toString(), 6);
            weighs(law.toString().replace("tells", "weighs"), 12);
        }
    }

    /** Promise 34: "COMPARED": by a LAW in place of that in FORCE (NONE: none), which stays. */
    private static void comparedByEachLaw() {
        TruthHats x = by("tells 2;bars");
        Due.law(x, "bars");
        Due.law(x, "tells 9");
        Due.law(x, "tells 5 if hat=1;tells 6 if other=1");
        int[] forth = {-1, 1, 2, 1, 8, 6, -1};
        int[] back = {-1, 1, 2, 1, 8, 5, -1};
        for (int law = -2; law <= 4; law++) {
            Due.due("34: compare(" + law + ", 0, 1)", x.compare(law, 0, 1), forth[law + 2]);
            Due.due("34: compare(" + law + ", 1, 0)", x.compare(law, 1, 0), back[law + 2]);
        }
        Due.due("34: the LAW in FORCE stays", x.count(12), 0);
        Due.due("34: as for two(): one alone", x.compare(0, 1, 1), -1);
        Due.due("34: as for two(): no such hat", x.compare(0, 2, 1), -1);
        Due.due("34: as for two(): no such other", x.compare(0, 0, 2), -1);
    }

    /** Promises 11, 15: "It leaves what can be undone", REFUSED or not. */
    private static void aLawLeavesWhatCanBeUndone() {
        TruthHats x = new TruthHats();
        x.pass();
        x.pass();
        for (int i = 0; i < 7; i++) {
            Due.law(x, "bars");
            Due.law(x, i < 5 ? "bar" : "bars");
        }
        x.force(5);
        x.force(6);
        x.force(-1);
        Due.due("39: what can be undone", x.count(5), 2);
        Due.due("20: undo()", x.undo(), 3);
        Due.due("20: undo() again", x.undo(), 3);
        Due.due("20: the laws stay", x.count(4), 6);
    }

    /** IV: IMAGES keep laws and which is in FORCE: there is room again behind back(). */
    private static void lawsOfImages() {
        TruthHats x = two();
        x.image(0);
        for (int i = 0; i < 6; i++) {
            Due.due("11: law number " + i, Due.law(x, "tells " + (i + 2)), i);
        }
        x.force(5);
        x.image(1);
        x.back(0);
        Due.due("39: LAWS of image 0", x.count(4), 0);
        Due.due("39: none is in FORCE", x.count(12), -1);
        Due.refused(x, "15: force(0) of none", () -> x.force(0), -2);
        Due.due("34: compare(0, 0, 1)", x.compare(0, 0, 1), -1);
        Due.due("11: there is room again", Due.law(x, "tells 0"), 0);
        Due.due("34: by it", x.compare(0, 0, 1), 0);
        x.back(1);
        Due.due("39: LAWS of image 1", x.count(4), 6);
        Due.due("39: law 5 is in FORCE", x.count(12), 5);
        Due.due("34: law 0 of image 1", x.compare(0, 0, 1), 2);
        Due.due("4: by law 5", x.two(0, 1, 0), 7);
        Due.due("11: no room again", Due.law(x, "tells 0"), -5);
    }
}
