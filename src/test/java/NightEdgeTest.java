/** Term III and promises 19, 21 to 28: each sentence that names a boundary, on both sides of it. */
public final class NightEdgeTest {
    public static void main(String[] args) {
        theLowestFirst();
        withoutThoseBarred();
        asManyAsItTells();
        allKnownAsItWasAhead();
        onlyThoseBeside();
        oneToldFromBothSidesOnce();
        anHourOfNone();
        hoursGoOnBeyondTheLast();
        laterZeroToSixty();
        learnsZeroToSixty();
        stillZeroToSixty();
        nothingMoreIsTold();
        askedOnPaperOfAllWords();
        pegOnWhichThereIsNone();
        pegOneToSixtyHours();
        otherOffOrNot();
        fewestHatsBesidesBoth();
        neitherOfBothCounts();
        theLowestPeg();
        theHighestPegAlone();
        pegOfAFullHall();
        cutOfNone();
        cutTheFewest();
        cutTheLowestAsBits();
        cutSixtyHoursOn();
        quietOneToTwelveHours();
        quietThreeAtMost();
        quietWithNoneOff();
        quietTheFirstRow();
        quietOnTheHighestPeg();
        quietWeighedAsAllIsThen();
        groupsWithoutAnEmptyPegBetween();
        talkativeTheLowest();
        talkativeToBoth();
        talkativeAtTheLastHour();
        Due.end("NightEdgeTest");
    }

    private static TruthHats under(TruthHats x, String law) {
        int number = Due.law(x, law);
        Due.due("11: law \"" + law + "\" is one", number >= 0 ? 1 : 0, 1);
        x.force(number);
        return x;
    }

    /** III: "of the THOUGHTS that it KNOWS and that one does not, the lowest first". */
    private static void theLowestFirst() {
        TruthHats x = Halls.line(2, 0, 7, 0, 4, 2);
        x.think(1, 2);
        int[] due = {4, 5, 21, 149, 149};
        for (int n = 0; n < due.length; n++) {
            Due.due("III: later(1, " + n + ")", x.later(1, n), due[n]);
        }
        Due.due("III: two in the first hour", under(x, "tells 2").later(1, 1), 4 + 1 + 16);
        Due.due("III: three in the first hour", under(x, "tells 3").later(1, 1), 4 + 1 + 16 + 128);
    }

    /** III: "without those that are BARRED": they are not counted among those told, either. */
    private static void withoutThoseBarred() {
        TruthHats x = Halls.line(2, 0, 0, 1, 2, 3);
        Due.due("III: the lowest that is not barred", under(x, "bars if thought=0").later(1, 1), 2);
        Due.due("III: two of them", under(x, "tells 2;bars if thought=0 or thought=2").later(1, 1), 2 + 8);
        Due.due("III: the last one", under(x, "tells 8;bars if thought<3").later(1, 60), 8);
        Due.due("III: none", under(x, "tells 8;bars").later(1, 60), 0);
        Due.due("III: barred from this one alone", under(x, "tells 8;bars if other=0").later(1, 1), 15);
        Due.due("III: nothing is told then", under(x, "tells 8;bars if other=1").pass(), 0);
    }

    /** III: "as many as it TELLS that one": 0, 1, 7, 8 of eight. */
    private static void asManyAsItTells() {
        for (int n = 0; n <= 9; n++) {
            TruthHats x = under(Halls.line(2, 0, 0, 1, 2, 3, 4, 5, 6, 7), "tells " + n);
            int told = Math.min(n, 8);
            Due.due("III: talkative(1) by " + n, x.talkative(1), told);
            Due.due("III: pass() by " + n, x.pass(), told);
            Due.due("III: of(1, 3) by " + n, x.of(1, 3), (1 << told) - 1);
            Due.due("III: still() by " + n, x.still(), n == 0 || told == 8 ? 0 : (8 - told + n - 1) / n);
        }
    }

    /** III: "all asked, all KNOWN as it was ahead; then all KNOW what they were told, too". */
    private static void allKnownAsItWasAhead() {
        TruthHats x = Halls.line(7, 3, 5);
        for (int n = 0; n <= 7; n++) {
            for (int hat = 0; hat < 7; hat++) {
                Due.due("III: later(" + hat + ", " + n + ")", x.later(hat, n), hat <= n ? 32 : 0);
            }
        }
        TruthHats y = Halls.hats(7);
        for (int i = 0; i < 7; i++) {
            y.hang(i, 9 - i);
        }
        y.think(0, 5);
        for (int hat = 0; hat < 7; hat++) {
            Due.due("III: downwards, learns(" + hat + ", 5)", y.learns(hat, 5), hat);
        }
        TruthHats z = Halls.line(2, 0, 1);
        z.think(1, 6);
        Due.due("III: each tells the other one", z.pass(), 2);
        Due.due("III: of(0, 3)", z.of(0, 3), 66);
        Due.due("III: of(1, 3)", z.of(1, 3), 66);
    }

    /** III: "each HAT on a PEG tells each BESIDE it": none that is OFF tells or is told. */
    private static void onlyThoseBeside() {
        TruthHats x = Halls.hats(4);
        x.think(0, 0);
        x.think(3, 3);
        x.hang(0, 0);
        x.hang(1, 1);
        x.hang(2, 3);
        Due.due("III: one is told", x.pass(), 1);
        Due.due("III: of(1, 3)", x.of(1, 3), 1);
        Due.due("III: two pegs off", x.of(2, 3), 0);
        Due.due("III: one that is OFF", x.of(3, 3), 8);
        Due.due("III: none tells more", x.pass(), 0);
        x.take(0);
        x.hang(3, 0);
        Due.due("III: hung in its place", x.pass(), 2);
    }

    /** Promise 19: "how many THOUGHTS were learnt by all HATS together (one told from both sides once)". */
    private static void oneToldFromBothSidesOnce() {
        TruthHats x = Halls.line(3, 4, 1);
        x.think(2, 1);
        Due.due("19: one from both sides", x.pass(), 1);
        TruthHats y = Halls.line(3, 4, 1);
        y.think(2, 2);
        Due.due("19: two from both sides", y.pass(), 2);
        Due.due("19: of(1, 3)", y.of(1, 3), 6);
        Due.due("19: one by two hats", y.pass(), 2);
        Due.due("19: none more", y.pass(), 0);
    }

    /** Promise 19: an HOUR in a bare hall, with all OFF, with all KNOWN: 0 were learnt. */
    private static void anHourOfNone() {
        TruthHats x = new TruthHats();
        Due.fine(x, "19: pass() without hats", () -> x.pass(), 0);
        TruthHats y = Halls.hats(7);
        y.think(0, 0);
        Due.fine(y, "19: pass() with all off", () -> y.pass(), 0);
        TruthHats z = Halls.line(2, 8, 0, 7);
        z.think(1, 0);
        z.think(1, 7);
        Due.fine(z, "19: pass() with all known", () -> z.pass(), 0);
        Due.due("19: HOUR", z.count(13), 1);
    }

    /** III: "(On paper, HOURS go on beyond 999, too:)". */
    private static void hoursGoOnBeyondTheLast() {
        TruthHats x = Halls.line(4, 0, 3);
        x.terms(0, 999);
        Due.due("III: later(3, 3)", x.later(3, 3), 8);
        Due.due("III: later(3, 2)", x.later(3, 2), 0);
        Due.due("III: learns(3, 3)", x.learns(3, 3), 3);
        Due.due("III: still()", x.still(), 3);
        Due.due("III: cut(3, 3, 1)", x.cut(3, 3, 1), 1);
        Due.due("III: pegFor(0, 3, 3, 1)", x.pegFor(0, 3, 3, 1), 4);
        Due.due("III: pegFor(0, 3, 3, 60)", x.pegFor(0, 3, 3, 60), 0);
        Due.due("III: quiet(12, -1)", x.quiet(12, -1), 4);
        Due.due("III: HOUR stays", x.count(13), 999);
        Due.refused(x, "19: pass()", () -> x.pass(), -3);
    }

    /** Promise 21: "LATER, n 0 .. 60, as bits." */
    private static void laterZeroToSixty() {
        TruthHats x = under(Halls.line(2, 0, 0, 3), "tells 0;tells 1 if hour=59;tells 1 if hour=0");
        Due.due("21: later(1, -1)", x.later(1, -1), -1);
        Due.due("21: later(1, 0)", x.later(1, 0), 0);
        Due.due("21: later(1, 1)", x.later(1, 1), 1);
        Due.due("21: later(1, 59)", x.later(1, 59), 1);
        Due.due("21: later(1, 60)", x.later(1, 60), 9);
        Due.due("21: later(1, 61)", x.later(1, 61), -1);
        Due.due("21: later(0, 0)", x.later(0, 0), 9);
        Due.due("21: later(2, 0)", x.later(2, 0), -1);
    }

    /** Promise 22: "LEARNS (0: it KNOWS it now). NONE (not in 60; no such HAT, THOUGHT)." */
    private static void learnsZeroToSixty() {
        for (int hour = 57; hour <= 62; hour++) {
            TruthHats x = under(Halls.line(2, 0, 7), "tells 0;tells 1 if hour=" + hour);
            Due.due("22: told in hour " + hour, x.learns(1, 7), hour < 60 ? hour + 1 : -1);
            Due.due("22: known now", x.learns(0, 7), 0);
            x.terms(0, hour);
            Due.due("22: told at once", x.learns(1, 7), 1);
            Due.due("22: hour " + (hour - 56), x.terms(0, hour - 56), hour);
            Due.due("22: told in the 57th", x.learns(1, 7), 57);
        }
        TruthHats z = under(Halls.line(2, 0, 7), "tells 0;tells 1 if hour=80");
        for (int hour = 19; hour <= 23; hour++) {
            z.terms(0, hour);
            Due.due("22: from hour " + hour + " on to 80", z.learns(1, 7), hour > 20 ? 81 - hour : -1);
        }
        TruthHats y = Halls.line(2, 0, 7);
        Due.due("22: a thought that nobody knows", y.learns(1, 6), -1);
        Due.due("22: thought -1", y.learns(1, -1), -1);
        Due.due("22: thought 8", y.learns(1, 8), -1);
        Due.due("22: hat -1", y.learns(-1, 7), -1);
        Due.due("22: hat 2", y.learns(2, 7), -1);
    }

    /** Promise 23: "STILL (60, if something is told in the 60th HOUR; 0, if nothing is told at all)." */
    private static void stillZeroToSixty() {
        Due.due("23: without hats", new TruthHats().still(), 0);
        Due.due("23: of hats that are off", Halls.hats(7).still(), 0);
        for (int hour = 0; hour <= 62; hour++) {
            TruthHats x = under(Halls.line(2, 0, 7), "tells 0;tells 1 if hour=" + hour);
            Due.due("23: told in hour " + hour, x.still(), hour < 60 ? hour + 1 : 0);
        }
        TruthHats y = under(Halls.line(7, 0, 0, 1, 2, 3, 4, 5, 6, 7), "tells 1");
        Due.due("23: eight thoughts through seven hats", y.still(), 8 + 5);
    }

    /** III: "from which on to the 60th nothing more is told": hours without any in between do not end it. */
    private static void nothingMoreIsTold() {
        TruthHats x = under(Halls.line(2, 0, 0, 1, 2), "tells 0;tells 1 if hour%20=19");
        Due.due("23: in the 20th, 40th, 60th", x.still(), 60);
        Due.due("21: later(1, 19)", x.later(1, 19), 0);
        Due.due("21: later(1, 20)", x.later(1, 20), 1);
        Due.due("21: later(1, 39)", x.later(1, 39), 1);
        Due.due("21: later(1, 40)", x.later(1, 40), 3);
        Due.due("21: later(1, 60)", x.later(1, 60), 7);
        x.terms(0, 1);
        Due.due("23: in the 19th, 39th, 59th", x.still(), 59);
        x.terms(0, 19);
        Due.due("23: in the first, 21st, 41st", x.still(), 41);
    }

    /** III: on paper a law is asked as in the hall: of each word, of the hour from the first on. */
    private static void askedOnPaperOfAllWords() {
        String[] laws = {"tells hour", "tells hour if hour>0", "tells rain-3", "tells kind*5", "tells tall",
            "tells like", "tells hat*2", "tells other", "tells knows", "bars if tall<2;tells 2",
            "bars if thought%2=1;tells 3"};
        for (String law : laws) {
            TruthHats x = under(Halls.line(3, 0, 0, 1, 2, 3, 4, 5), law);
            x.terms(2, 5);
            TruthHats y = under(Halls.line(3, 0, 0, 1, 2, 3, 4, 5), law);
            y.terms(2, 5);
            for (int n = 0; n < 7; n++) {
                for (int hat = 0; hat < 3; hat++) {
                    Due.due("21: later(" + hat + ", " + n + ") by " + law, x.later(hat, n), y.of(hat, 3));
                }
                y.pass();
            }
        }
        TruthHats z = under(Halls.line(2, 0, 0, 1), "tells hour");
        Due.due("21: nothing in hour 0", z.later(1, 1), 0);
        Due.due("21: one in hour 1", z.later(1, 2), 1);
        Due.due("25: it has to be cut off all the same", z.cut(1, 0, 0), 1);
        Due.due("24: in two hours", z.pegFor(0, 0, 1, 2), 0);
        Due.due("26: one more in two hours", z.quiet(2, -1), 3);
    }

    /** III: "were it on that PEG (on which there is none, or it itself) and on no other one". */
    private static void pegOnWhichThereIsNone() {
        TruthHats x = Halls.hats(3);
        x.think(0, 4);
        x.hang(1, 0);
        Due.due("24: the one PEG beside it", x.pegFor(0, 4, 1, 1), 1);
        x.hang(2, 1);
        Due.due("24: there is another one on it", x.pegFor(0, 4, 1, 1), -1);
        Due.due("24: through that one", x.pegFor(0, 4, 1, 2), 2);
        x.hang(0, 2);
        Due.due("24: it itself is on it", x.pegFor(0, 4, 1, 2), 2);
        x.take(2);
        Due.due("24: it would be on no other one", x.pegFor(0, 4, 1, 1), 1);
        x.take(0);
        x.take(1);
        x.hang(1, 9);
        Due.due("24: beside the highest PEG", x.pegFor(0, 4, 1, 1), 8);
        x.hang(0, 8);
        Due.due("24: where it hangs", x.pegFor(0, 4, 1, 1), 8);
        x.hang(2, 7);
        Due.due("24: that tells the third one, too", x.pegFor(0, 4, 1, 60), 8);
        Due.due("24: where it hung none is left", x.pegFor(0, 4, 2, 1), 6);
    }

    /** Promise 24: "n 1 .. 60." */
    private static void pegOneToSixtyHours() {
        TruthHats x = under(Halls.line(2, 4, 1), "tells 0;tells 1 if hour=59");
        Due.due("24: 0 hours", x.pegFor(0, 1, 1, 0), -1);
        Due.due("24: 1 hour", x.pegFor(0, 1, 1, 1), -1);
        Due.due("24: 59 hours", x.pegFor(0, 1, 1, 59), -1);
        Due.due("24: 60 hours", x.pegFor(0, 1, 1, 60), 4);
        Due.due("24: 61 hours", x.pegFor(0, 1, 1, 61), -1);
        x.terms(0, 59);
        Due.due("24: 1 hour then", x.pegFor(0, 1, 1, 1), 4);
        Due.due("24: 0 hours then", x.pegFor(0, 1, 1, 0), -1);
        x.think(1, 1);
        Due.due("24: 0 hours, though it knows it", x.pegFor(0, 1, 1, 0), -1);
    }

    /** III: "the OTHER (OFF or not) would KNOW the THOUGHT n HOURS on". */
    private static void otherOffOrNot() {
        TruthHats x = Halls.hats(3);
        x.think(0, 4);
        Due.due("24: one that is OFF never learns it", x.pegFor(0, 4, 1, 60), -1);
        x.think(1, 4);
        Due.due("24: one that is OFF and knows it", x.pegFor(0, 4, 1, 1), 0);
        Due.due("24: one that knows nothing, for that one", x.pegFor(2, 4, 1, 1), 0);
        x.hang(2, 1);
        Due.due("24: away from the third one", x.pegFor(0, 4, 1, 1), 3);
        Due.due("24: a thought that nobody knows", x.pegFor(0, 5, 1, 60), -1);
    }

    /** III: "and the fewest HATS besides both would": the two themselves do not count, those that are OFF do. */
    private static void fewestHatsBesidesBoth() {
        TruthHats x = Halls.hats(5);
        x.think(0, 6);
        x.hang(1, 5);
        x.hang(2, 3);
        x.hang(3, 4);
        Due.due("24: hat 3 would learn it a little later", x.pegFor(0, 6, 1, 1), 6);
        Due.due("24: in two hours both sides are alike but for one", x.pegFor(0, 6, 1, 2), 6);
        Due.due("24: in three hours it does not matter", x.pegFor(0, 6, 1, 3), 2);
        x.think(4, 6);
        Due.due("24: one that is OFF and knows it counts anywhere", x.pegFor(0, 6, 1, 2), 6);
        x.take(0);
        x.take(3);
        Due.due("24: as few on both sides, the lower one beside hat 2", x.pegFor(0, 6, 1, 1), 6);
        x.take(2);
        Due.due("24: the lowest", x.pegFor(0, 6, 1, 1), 4);
    }

    /** III: "the fewest HATS besides both": the HAT may learn it, the OTHER has to; hat 0 counts as any other one. */
    private static void neitherOfBothCounts() {
        TruthHats x = Halls.hats(3);
        x.think(1, 3);
        x.hang(1, 1);
        Due.due("24: HAT would learn it beside the OTHER", x.pegFor(2, 3, 1, 1), 0);
        x.hang(0, 3);
        Due.due("24: on 2 hat 0 would not learn it within an hour", x.pegFor(2, 3, 1, 1), 0);
        x.take(1);
        Due.due("24: the OTHER is OFF", x.pegFor(2, 3, 1, 60), 0);
        TruthHats y = Halls.hats(3);
        y.think(2, 3);
        y.hang(1, 4);
        y.hang(0, 2);
        Due.due("24: on 3 hat 0 would learn it, too", y.pegFor(2, 3, 1, 1), 5);
        y.think(0, 3);
        Due.due("24: hat 0 KNOWS it wherever it is", y.pegFor(2, 3, 1, 1), 3);
    }

    /** III: "the lowest" of the PEGS, 0 and 9 among them. */
    private static void theLowestPeg() {
        TruthHats x = Halls.hats(3);
        x.think(0, 0);
        x.think(1, 0);
        Due.due("24: the OTHER knows it anyway", x.pegFor(0, 0, 1, 60), 0);
        for (int peg = 0; peg < 9; peg++) {
            x.take(2);
            x.hang(2, peg);
            int due = peg == 0 ? 2 : peg == 1 ? 3 : 0;
            Due.due("24: away from peg " + peg, x.pegFor(0, 0, 1, 1), due);
        }
        TruthHats y = Halls.hats(2);
        y.think(0, 0);
        for (int peg = 0; peg <= 9; peg++) {
            y.take(1);
            y.hang(1, peg);
            Due.due("24: beside peg " + peg, y.pegFor(0, 0, 1, 1), peg == 0 ? 1 : peg - 1);
        }
    }

    /** III: "the lowest" is the highest of all, if it is the only one. */
    private static void theHighestPegAlone() {
        TruthHats x = Halls.hats(3);
        x.think(0, 0);
        x.hang(1, 8);
        x.hang(2, 7);
        Due.due("24: the other side is taken", x.pegFor(0, 0, 1, 1), 9);
        Due.due("24: in two hours hat 2 learns it on both sides", x.pegFor(0, 0, 1, 2), 6);
        x.hang(0, 9);
        Due.due("24: it is there already", x.pegFor(0, 0, 1, 1), 9);
        Due.due("24: for hat 2 there is the other side", x.pegFor(0, 0, 2, 1), 6);
    }

    /** III: with seven HATS on PEGS there are three empty ones and its own. */
    private static void pegOfAFullHall() {
        TruthHats x = Halls.line(7, 3, 2);
        Due.due("24: at the lower end", x.pegFor(0, 2, 1, 1), 3);
        Due.due("24: it alone lets the last one learn", x.pegFor(0, 2, 6, 60), 3);
        Due.due("24: in six hours", x.pegFor(0, 2, 6, 6), 3);
        Due.due("24: not in five", x.pegFor(0, 2, 6, 5), -1);
        TruthHats y = Halls.line(7, 0, 2);
        Due.due("24: at the upper end", y.pegFor(0, 2, 6, 1), 7);
        Due.due("24: in six hours, all others know it", y.pegFor(0, 2, 6, 6), 0);
        Due.due("24: in five hours from the upper end alone", y.pegFor(0, 2, 6, 5), 7);
    }

    /** III: "of none, if it would not anyway". */
    private static void cutOfNone() {
        TruthHats x = Halls.line(7, 3);
        Due.due("25: nobody knows it, how many", x.cut(3, 0, 0), 0);
        Due.due("25: nobody knows it, who", x.cut(3, 0, 1), 0);
        TruthHats y = Halls.line(2, 0, 5);
        y.hat(0, 0);
        Due.due("25: it is OFF", y.cut(2, 5, 0), 0);
        y.hang(2, 3);
        Due.due("25: an empty peg is between", y.cut(2, 5, 1), 0);
        y.take(1);
        y.take(2);
        y.hang(2, 1);
        Due.due("25: beside the one that knows it", y.cut(2, 5, 1), 1);
        Due.due("25: it is BARRED anyway", under(y, "bars if thought=5").cut(2, 5, 0), 0);
        Due.due("25: it is not told anyway", under(y, "tells 0").cut(2, 5, 0), 0);
    }

    /** III: "the fewest others on PEGS (whether they KNOW it or not ..)": 0, 1, 2; never more than those beside it. */
    private static void cutTheFewest() {
        TruthHats x = Halls.line(7, 1, 4);
        for (int hat = 1; hat < 7; hat++) {
            Due.due("25: from one side, cut(" + hat + ", 4, 0)", x.cut(hat, 4, 0), 1);
        }
        x.think(6, 4);
        for (int hat = 1; hat < 6; hat++) {
            Due.due("25: from both sides, cut(" + hat + ", 4, 0)", x.cut(hat, 4, 0), 2);
        }
        Due.due("25: it KNOWS it", x.cut(0, 4, 0), -1);
        Due.due("25: it KNOWS it, who", x.cut(6, 4, 1), -1);
    }

    /** III: "of as few the lowest as bits". */
    private static void cutTheLowestAsBits() {
        TruthHats x = Halls.line(7, 1, 4);
        x.think(6, 4);
        Due.due("25: 0 or 1, and 4, 5 or 6", x.cut(3, 4, 1), 1 + 16);
        Due.due("25: beside the first", x.cut(1, 4, 1), 1 + 4);
        Due.due("25: beside the last", x.cut(5, 4, 1), 1 + 64);
        TruthHats y = Halls.hats(4);
        y.hang(3, 0);
        y.hang(1, 1);
        y.hang(2, 2);
        y.hang(0, 3);
        y.think(3, 7);
        Due.due("25: 1 is lower than 2 and 3", y.cut(0, 7, 1), 2);
        Due.due("25: how many", y.cut(0, 7, 0), 1);
        y.think(0, 6);
        Due.due("25: 1 and 2 are between, 0 is lowest", y.cut(3, 6, 1), 1);
        Due.due("25: what -1", y.cut(3, 6, -1), -1);
        Due.due("25: what 2", y.cut(3, 6, 2), -1);
    }

    /** III: "it would not KNOW it 60 HOURS on": in the 60th hour it may be told, in the 61st it does not matter. */
    private static void cutSixtyHoursOn() {
        for (int hour = 58; hour <= 61; hour++) {
            TruthHats x = under(Halls.line(2, 0, 0), "tells 0;tells 1 if hour=" + hour);
            Due.due("25: told in hour " + hour, x.cut(1, 0, 0), hour < 60 ? 1 : 0);
            Due.due("25: told in hour " + hour + ", who", x.cut(1, 0, 1), hour < 60 ? 1 : 0);
        }
    }

    /** III: "QUIET, n HOURS 1 .. 12". */
    private static void quietOneToTwelveHours() {
        TruthHats x = under(Halls.line(2, 0, 3), "tells 0;tells 1 if hour=11");
        x.hat(0, 0);
        Due.due("26: 0 hours", x.quiet(0, -1), -1);
        Due.due("26: 1 hour", x.quiet(1, -1), 1);
        Due.due("26: 11 hours", x.quiet(11, -1), 1);
        Due.due("26: 12 hours", x.quiet(12, -1), 2);
        Due.due("26: 13 hours", x.quiet(13, -1), -1);
        Due.due("26: 12 hours, its PEG", x.quiet(12, 0), 2);
        Due.due("26: 11 hours, its PEG", x.quiet(11, 0), 2);
    }

    /** III: "HATS that are OFF (3 at most) each on an empty PEG"; promise 26: "NONE (more than 3 are OFF; ..)". */
    private static void quietThreeAtMost() {
        for (int off = 0; off <= 7; off++) {
            TruthHats x = Halls.hats(7);
            for (int i = 0; i < 7; i++) {
                x.think(i, i);
            }
            for (int i = off; i < 7; i++) {
                x.hang(i, i + 3);
            }
            int weight = x.quiet(12, -1);
            Due.due("26: with " + off + " off there is a weight", weight == -1 ? 0 : 1, off <= 3 ? 1 : 0);
            for (int i = -2; i <= 8; i++) {
                boolean is = i >= -1 && i < off && off <= 3;
                Due.due("26: quiet(12, " + i + ") with " + off + " off", x.quiet(12, i) == -1 ? 0 : 1, is ? 1 : 0);
            }
        }
    }

    /** III: "with none OFF just that", n HOURS on; promise 26: "what all WEIGHS together (i NONE)". */
    private static void quietWithNoneOff() {
        Due.due("26: no hats", new TruthHats().quiet(12, -1), 0);
        TruthHats x = Halls.line(3, 0, 1, 2);
        int[] due = {-1, 3, 5, 6, 6};
        for (int n = 0; n < due.length; n++) {
            Due.due("26: quiet(" + n + ", -1)", x.quiet(n, -1), due[n]);
        }
        Due.due("26: there is no i-th", x.quiet(1, 0), -1);
        under(x, "weighs 99;tells 8");
        Due.due("26: two hours on, all know both", x.quiet(2, -1), 6 * 99);
        TruthHats y = under(Halls.line(7, 0, 0, 1, 2, 3, 4, 5, 6, 7), "weighs 99;tells 8");
        Due.due("26: the greatest that can be", y.quiet(12, -1), 7 * 8 * 99);
        Due.due("26: five hours on", y.quiet(5, -1), 6 * 8 * 99);
        Due.due("26: what weighs nothing", under(y, "weighs 0").quiet(12, -1), 0);
    }

    /** III: "the first as a row of PEGS by these HATS, rising": by the first hat, then by the next. */
    private static void quietTheFirstRow() {
        TruthHats x = Halls.hats(3);
        int[] due = {0, 1, 2};
        for (int i = 0; i < 3; i++) {
            Due.due("26: they know nothing, quiet(1, " + i + ")", x.quiet(1, i), due[i]);
        }
        x.think(1, 0);
        int[] away = {0, 2, 4};
        for (int i = 0; i < 3; i++) {
            Due.due("26: away from hat 1, quiet(12, " + i + ")", x.quiet(12, i), away[i]);
        }
        Due.due("26: it alone knows it", x.quiet(12, -1), 1);
        TruthHats y = Halls.hats(4);
        y.think(2, 0);
        y.hang(2, 1);
        int[] beside = {3, 4, 5};
        for (int i = 0; i < 3; i++) {
            Due.due("26: hats 0, 1, 3 off, the " + i + "-th", y.quiet(12, i), beside[i]);
        }
        TruthHats z = under(Halls.hats(7), "weighs 1;weighs 9 if hat=6;weighs 8 if hat=5");
        for (int i = 0; i < 5; i++) {
            z.hang(i, 2 * i);
            z.think(i, 0);
        }
        Due.due("26: all but peg 9 are beside two", z.quiet(12, -1), 5 + 9 + 8);
        Due.due("26: hat 5", z.quiet(12, 0), 1);
        Due.due("26: hat 6", z.quiet(12, 1), 3);
        z.take(4);
        z.hang(4, 7);
        Due.due("26: hat 6 is best on peg 9", z.quiet(12, -1), 5 + 8);
        Due.due("26: hat 5 then", z.quiet(12, 0), 1);
        Due.due("26: hat 6 then", z.quiet(12, 1), 9);
        Due.due("26: there is no third", z.quiet(12, 2), -1);
    }

    /** III: "the first as a row of PEGS": also if the first of the HATS is best on the highest PEG alone. */
    private static void quietOnTheHighestPeg() {
        int[][] rows = {{9}, {9, 0}, {9, 0, 2}};
        for (int off = 1; off <= 3; off++) {
            TruthHats x = Halls.hats(off + 4);
            for (int i = 0; i < 4; i++) {
                x.hang(off + i, 2 * i + 1);
            }
            x.think(0, 4);
            Due.due("26: away from all, with " + off + " off", x.quiet(1, -1), 1);
            Due.due("26: twelve hours on", x.quiet(12, -1), 1);
            for (int i = 0; i < off; i++) {
                Due.due("26: quiet(12, " + i + ") with " + off + " off", x.quiet(12, i), rows[off - 1][i]);
            }
            Due.due("26: not so many", x.quiet(12, off), -1);
        }
    }

    /** III: "(each for each HAT that KNOWS it, asked as all is then ..)". */
    private static void quietWeighedAsAllIsThen() {
        TruthHats x = under(Halls.line(2, 0, 3), "weighs knows*10+hour");
        Due.due("26: as hour and knows are then", x.quiet(1, -1), 2 * 11);
        Due.due("26: twelve hours on", x.quiet(12, -1), 2 * 22);
        x.terms(0, 999);
        Due.due("26: hour 1000, at most 99 each", x.quiet(1, -1), 2 * 99);
        Due.due("26: hour 1011", under(x, "weighs hour-1000").quiet(12, -1), 2 * 11);
        Due.due("26: hour 1000 less a thousand", x.quiet(1, -1), 0);
    }

    /** III: "GROUPS: HATS on PEGS one beside the other, without an empty PEG between." */
    private static void groupsWithoutAnEmptyPegBetween() {
        TruthHats x = Halls.hats(7);
        Due.due("27: all are OFF", x.groups(-1), 0);
        int[] pegs = {0, 9, 1, 8, 4, 5, 6};
        int[] groups = {1, 2, 2, 2, 3, 3, 3};
        for (int i = 0; i < 7; i++) {
            Due.due("27: OFF, groups(" + i + ")", x.groups(i), 0);
            x.hang(i, pegs[i]);
            Due.due("27: groups(-1) with " + (i + 1), x.groups(-1), groups[i]);
        }
        int[] who = {5, 10, 5, 10, 112, 112, 112};
        for (int i = 0; i < 7; i++) {
            Due.due("27: groups(" + i + ")", x.groups(i), who[i]);
        }
        x.take(5);
        Due.due("27: an empty PEG between", x.groups(-1), 4);
        Due.due("27: who is in that of hat 4", x.groups(4), 16);
        x.hang(5, 7);
        Due.due("27: peg 7 joins two", x.groups(-1), 3);
        Due.due("27: who is in that of hat 6", x.groups(6), 2 + 8 + 32 + 64);
        Due.due("27: groups(7)", x.groups(7), -1);
        Due.due("27: groups(-2)", x.groups(-2), -1);
        TruthHats y = Halls.line(7, 3);
        Due.due("27: one of all seven", y.groups(-1), 1);
        Due.due("27: who is in it", y.groups(3), 127);
        TruthHats z = Halls.hats(5);
        for (int i = 0; i < 5; i++) {
            z.hang(i, 2 * i + 1);
        }
        Due.due("27: five of one each", z.groups(-1), 5);
        Due.due("27: who is in the highest", z.groups(4), 16);
    }

    /** III: "TALKATIVE: the HAT that .. tells most ..; the lowest", also if none tells any. */
    private static void talkativeTheLowest() {
        Due.due("28: no HATS", new TruthHats().talkative(0), -1);
        Due.due("28: no HATS, how many", new TruthHats().talkative(1), -1);
        TruthHats x = Halls.hats(7);
        Due.due("28: all are OFF", x.talkative(0), 0);
        Due.due("28: all are OFF, how many", x.talkative(1), 0);
        for (int i = 0; i < 7; i++) {
            x.hang(i, i);
        }
        Due.due("28: they know nothing", x.talkative(0), 0);
        x.think(6, 1);
        Due.due("28: the last one tells one", x.talkative(0), 6);
        x.think(1, 0);
        Due.due("28: hat 1 tells two", x.talkative(0), 1);
        x.think(4, 0);
        Due.due("28: hat 4 as many", x.talkative(0), 1);
        x.think(0, 0);
        Due.due("28: hat 1 one less", x.talkative(0), 4);
        Due.due("28: how many", x.talkative(1), 2);
    }

    /** III: "(one told to both twice; one that is OFF tells 0)": 16 is the most that can be. */
    private static void talkativeToBoth() {
        TruthHats x = Halls.line(3, 7);
        for (int thought = 0; thought < 8; thought++) {
            x.think(1, thought);
        }
        Due.due("28: one to both", x.talkative(1), 2);
        Due.due("28: eight to both", under(x, "tells 8").talkative(1), 16);
        Due.due("28: who", x.talkative(0), 1);
        Due.due("21: all eight to both, an hour on", x.later(0, 1) + x.later(2, 1), 510);
        x.take(1);
        Due.due("28: OFF it tells 0", x.talkative(1), 0);
        Due.due("28: the lowest of those that tell 0", x.talkative(0), 0);
        x.hang(1, 6);
        Due.due("28: to one", x.talkative(1), 8);
        x.take(1);
        x.hang(1, 0);
        Due.due("28: on the lowest PEG, beside none", x.talkative(1), 0);
        x.take(0);
        x.hang(0, 1);
        Due.due("28: on the lowest PEG, beside one", x.talkative(1), 8);
    }

    /** III: "in the next HOUR": the law is asked of the HOUR that is now; at 999 as on paper. */
    private static void talkativeAtTheLastHour() {
        TruthHats x = under(Halls.line(2, 0, 0, 1, 2), "tells 2 if hour=0;tells 3 if hour=999");
        Due.due("28: at hour 0", x.talkative(1), 2);
        x.terms(0, 1);
        Due.due("28: at hour 1", x.talkative(1), 1);
        x.terms(0, 999);
        Due.due("28: at hour 999", x.talkative(1), 3);
        Due.due("28: the HOUR stays", x.count(13), 999);
    }
}
