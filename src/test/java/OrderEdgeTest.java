/** Term II's ORDERS and promises 12, 14: each sentence that names a boundary, on both sides of it. */
public final class OrderEdgeTest {
    public static void main(String[] args) {
        timesOneToTwenty();
        onceWithout();
        theMostThatCanBeRun();
        hatsOfWords();
        eachTimeItsIfIsAsked();
        notRunIfNotSo();
        doneIsZeroAtFirst();
        latestIsMinusOneAtFirst();
        hungZeroToSeven();
        pegOfAHat();
        knowsOfAHat();
        hourOfOrders();
        whatCantBeEndsIt();
        eachClauseCanStop();
        stoppedOfTheLatest();
        allAsItWasAheadOfIt();
        ordersAreUndoneOneByOne();
        ordersForgetTheOldest();
        ordersGoByTheLawInForce();
        nothingIsLeftOfEarlierOrders();
        Due.end("OrderEdgeTest");
    }

    private static void runs(TruthHats x, String text, int due) {
        Due.put(x, text);
        Due.fine(x, "12: \"" + text + "\"", () -> x.orders(), due);
        Due.due("14: stopped() behind \"" + text + "\"", x.stopped(), -1);
        Due.due("13: fault() behind \"" + text + "\"", x.fault(), -1);
    }

    private static void stops(TruthHats x, String text, int clause) {
        Due.put(x, text);
        Due.refused(x, "12: \"" + text + "\"", () -> x.orders(), -3);
        Due.due("14: stopped() behind \"" + text + "\"", x.stopped(), clause);
        Due.due("13: fault() behind \"" + text + "\"", x.fault(), -1);
    }

    /** Whether a test of orders is so: one pass is run then. */
    private static void isSo(TruthHats x, String test, boolean due) {
        runs(x, "pass if " + test, due ? 1 : 0);
    }

    /** II: "TIMES: a NUMBER 1 .. 20." */
    private static void timesOneToTwenty() {
        for (int times = 0; times <= 22; times++) {
            TruthHats x = new TruthHats();
            if (times >= 1 && times <= 20) {
                runs(x, "pass times " + times, times);
                Due.due("12: HOUR behind it", x.count(13), times);
            } else {
                int number = times;
                Due.put(x, "pass times " + number);
                Due.refused(x, "12: times " + number, () -> x.orders(), -6);
                Due.due("13: fault() of times " + number, x.fault(), 11);
                Due.due("12: HOUR behind it", x.count(13), 0);
            }
        }
    }

    /** II: "each as often as TIMES tell (once without)". */
    private static void onceWithout() {
        TruthHats x = Halls.hats(1);
        runs(x, "pass", 1);
        runs(x, "pass times 1", 1);
        runs(x, "pass;pass times 2;pass", 4);
        Due.due("12: HOUR", x.count(13), 6);
        runs(x, "think done in 0 times 8", 8);
        Due.due("12: it KNOWS all", x.of(0, 3), 255);
    }

    /** II: 12 CLAUSES, 20 TIMES each: 240 are run. */
    private static void theMostThatCanBeRun() {
        TruthHats x = new TruthHats();
        StringBuilder text = new StringBuilder("pass times 20");
        for (int i = 1; i < 12; i++) {
            text.append(";pass times 20");
        }
        runs(x, text.toString(), 240);
        Due.due("12: HOUR", x.count(13), 240);
        Due.due("20: sixteen of them can be undone", x.count(5), 16);
        x.terms(0, 759);
        runs(x, text.toString(), 240);
        Due.due("12: HOUR", x.count(13), 999);
        x.terms(0, 760);
        stops(x, text.toString(), 11);
        Due.due("12: HOUR is as it was", x.count(13), 760);
    }

    /** II: ""peg" H | "knows" H (H: a NUMBER 0 .. 6)". */
    private static void hatsOfWords() {
        for (int hat = 0; hat <= 8; hat++) {
            for (String word : new String[] {"peg ", "knows "}) {
                TruthHats x = new TruthHats();
                String text = "pass if " + word + hat + "<0";
                if (hat <= 6) {
                    runs(x, text, 1);
                } else {
                    Due.put(x, text);
                    Due.refused(x, "12: " + text, () -> x.orders(), -6);
                    Due.due("13: fault() of " + text, x.fault(), 8 + word.length());
                }
            }
        }
    }

    /** II: "each time its "if" is asked", as all is then. */
    private static void eachTimeItsIfIsAsked() {
        TruthHats x = Halls.hats(2);
        runs(x, "pass times 20 if hour<5", 5);
        Due.due("12: HOUR", x.count(13), 5);
        runs(x, "think knows 0 in 0 times 20 if knows 0<3", 3);
        Due.due("12: what it KNOWS", x.of(0, 3), 7);
        runs(x, "hang 0 on 4 times 20 if peg 0<0;take 0 times 20 if peg 0=4", 2);
        runs(x, "pass times 2;pass times 20 if done>1 and done<4", 4);
        runs(x, "pass times 20 if done%2=0", 1);
        runs(x, "pass times 3 if done=1;pass;pass times 3 if done=1", 2);
    }

    /** II: "(not run, if it is not so or BROKEN)": then its SUMS are not asked, either. */
    private static void notRunIfNotSo() {
        TruthHats x = Halls.hats(1);
        runs(x, "pass if 1=2", 0);
        runs(x, "pass if 1/0=1", 0);
        runs(x, "pass if not 1/0=1", 0);
        runs(x, "pass times 20 if 1000*1000*1000+1>0", 0);
        runs(x, "take 1/0 if 1=2;take 9 if 1/0=1;hang 9 on 10 times 3 if 2<1;think 8 in 0 if 1%0=0", 0);
        Due.due("20: nothing can be undone", x.count(5), 0);
        Due.due("12: HOUR", x.count(13), 0);
        stops(x, "take 1/0 if 1=1", 0);
    }

    /** II: "done: how many were run in this TEXT": 0 at first, without those that were not run. */
    private static void doneIsZeroAtFirst() {
        TruthHats x = Halls.hats(1);
        isSo(x, "done=0", true);
        isSo(x, "done>0", false);
        runs(x, "pass if 1=2;pass times 2 if done=0;pass if done=1", 2);
        runs(x, "pass times 20;pass times 20;pass if done=40;pass if done=41;pass if done=41", 42);
        runs(x, "think done in 0 times 2", 2);
        Due.due("12: thoughts 0 and 1", x.of(0, 3), 3);
        runs(x, "hang 0 on done;take 0 if done=1;hang 0 on done", 3);
        Due.due("12: on peg 2", x.of(0, 2), 2);
    }

    /** II: "latest: what the latest pass in it told (-1: none)". */
    private static void latestIsMinusOneAtFirst() {
        TruthHats x = Halls.line(2, 0, 0, 1);
        Due.law(x, "tells 2;tells 0 if hour=1");
        x.force(0);
        isSo(x, "latest=0-1 and hour=0", true);
        Due.due("12: HOUR", x.count(13), 1);
        Due.due("12: both were told", x.of(1, 3), 3);
        isSo(x, "latest<0", true);
        runs(x, "think 5 in 0;pass if latest<0;pass if latest=1;pass if latest=0;pass if latest=1", 4);
        runs(x, "think 6 in 0 times 2 if latest=0-1 and knows 0=3", 1);
        runs(x, "pass;take 0;think 7 in 0;hang 0 on 9 if latest=1;pass;pass if latest=0", 6);
    }

    /** II: "hung: how many HATS are on PEGS". */
    private static void hungZeroToSeven() {
        TruthHats x = Halls.hats(7);
        for (int i = 0; i < 7; i++) {
            isSo(x, "hung=" + i, true);
            runs(x, "hang hung on hung+2", 1);
        }
        isSo(x, "hung=7", true);
        isSo(x, "hung>6 and hung<8", true);
        runs(x, "take hung-1 times 7", 7);
        isSo(x, "hung=0", true);
        isSo(new TruthHats(), "hung=0", true);
    }

    /** II: "peg: that of a HAT (-1: it is OFF) .. -1 without such a HAT". */
    private static void pegOfAHat() {
        TruthHats x = Halls.hats(6);
        x.hang(0, 0);
        x.hang(5, 9);
        isSo(x, "peg 0=0", true);
        isSo(x, "peg 5=9", true);
        for (int hat = 1; hat < 5; hat++) {
            isSo(x, "peg " + hat + "=0-1", true);
        }
        isSo(x, "peg 6=0-1", true);
        isSo(x, "peg 6<0-1 or peg 6>0-1", false);
        runs(x, "take 5 if peg 5=9;hang 5 on peg 5+3;pass if peg 5=2", 3);
        x.hat(0, 0);
        x.hang(6, 7);
        isSo(x, "peg 6=7", true);
        isSo(new TruthHats(), "peg 0=0-1", true);
    }

    /** II: "knows: how many THOUGHTS it KNOWS; -1 without such a HAT". */
    private static void knowsOfAHat() {
        TruthHats x = Halls.hats(6);
        for (int thought = 0; thought < 8; thought++) {
            isSo(x, "knows 5=" + thought, true);
            x.think(5, thought);
        }
        isSo(x, "knows 5=8", true);
        isSo(x, "knows 0=0", true);
        isSo(x, "knows 6=0-1", true);
        isSo(x, "knows 6=0", false);
        isSo(new TruthHats(), "knows 0=0-1", true);
        x.hat(0, 0);
        isSo(x, "knows 6=0", true);
    }

    /** II: the word "hour", 0 .. 999. */
    private static void hourOfOrders() {
        TruthHats x = new TruthHats();
        isSo(x, "hour=0", true);
        isSo(x, "hour=1", true);
        x.terms(0, 998);
        isSo(x, "hour=998", true);
        runs(x, "pass if hour<999", 0);
        stops(x, "pass if hour=999", 0);
    }

    /** II: "One that can't be (a BROKEN SUM, as hang(), take(), think(), pass() are REFUSED) ends it". */
    private static void whatCantBeEndsIt() {
        String[] texts = {"hang 2 on 0", "hang 0 on 0", "take 2", "think 8 in 0", "think 0 in 0", "think 1 in 2",
            "take 1/0", "take 0%0", "hang 1/0 on 1", "hang 1 on 1/0", "think 1/0 in 0", "think 1 in 1/0",
            "take 0-1", "think 0-1 in 0", "take 1000*1000*1000+1", "take 1000*1000*1000*1000*1000*1000"};
        for (String text : texts) {
            TruthHats x = Halls.line(2, 8, 0);
            stops(x, text, 0);
            stops(x, "pass;pass;" + text + ";pass", 2);
            stops(x, "take 0;hang 0 on 3;think 5 in 1;" + text + ";take 9", 3);
            Due.due("12: HOUR is as it was", x.count(13), 0);
            Due.due("12: on(8) is as it was", x.on(8), 0);
            Due.due("12: of(1, 3) is as it was", x.of(1, 3), 0);
            Due.due("20: what can be undone is as it was", x.count(5), 3);
        }
        TruthHats x = Halls.line(2, 8, 0);
        stops(x, "hang 1 on 10", 0);
        stops(x, "take 1;hang 1 on 10", 1);
        stops(x, "take 1;hang 1 on 0-1", 1);
        stops(x, "take 1;hang 1 on 8", 1);
        runs(x, "take 1;hang 1 on 0;take 1;hang 1 on 9", 4);
    }

    /** Promise 14: "Which CLAUSE (0 on)", not which time: the first and the twelfth. */
    private static void eachClauseCanStop() {
        for (int place = 0; place < 12; place++) {
            TruthHats x = Halls.hats(1);
            StringBuilder text = new StringBuilder();
            for (int i = 0; i < 12; i++) {
                text.append(i == 0 ? "" : ";").append(i == place ? "take 0" : "pass times 2");
            }
            stops(x, text.toString(), place);
            Due.due("12: HOUR is as it was", x.count(13), 0);
        }
        TruthHats y = Halls.hats(1);
        y.terms(0, 989);
        stops(y, "pass times 10;pass", 1);
        runs(y, "pass times 10", 10);
        stops(y, "think 3 in 0 times 2", 0);
    }

    /** Promise 14: "NONE (that was done, or REFUSED by -6; ahead of any)": others leave it. */
    private static void stoppedOfTheLatest() {
        TruthHats x = Halls.hats(1);
        Due.due("14: ahead of any", x.stopped(), -1);
        stops(x, "pass;take 0", 1);
        x.take(0);
        Due.law(x, "x");
        Due.law(x, "bars");
        x.row();
        x.undo();
        x.image(0);
        x.back(0);
        x.capitals(0, 60);
        Due.due("14: others leave it", x.stopped(), 1);
        Due.put(x, "pass;take");
        Due.refused(x, "12: orders that can't be read", () -> x.orders(), -6);
        Due.due("14: REFUSED by -6", x.stopped(), -1);
        stops(x, "take 0", 0);
        runs(x, "pass", 1);
        stops(x, "take 0", 0);
        runs(x, "take 0 if 1=2", 0);
    }

    /** II: "all is as it was ahead of it": of the TEXT, not of the CLAUSE. */
    private static void allAsItWasAheadOfIt() {
        TruthHats x = Halls.line(3, 3, 1, 2);
        x.pass();
        stops(x, "think 7 in 2;pass times 3;take 0;take 1;take 2;hang 0 on 0;hang 1 on 9;take 2", 7);
        Due.due("12: HOUR", x.count(13), 1);
        int[] pegs = {3, 4, 5};
        int[] known = {6, 2, 0};
        for (int hat = 0; hat < 3; hat++) {
            Due.due("12: of(" + hat + ", 2)", x.of(hat, 2), pegs[hat]);
            Due.due("12: of(" + hat + ", 3)", x.of(hat, 3), known[hat]);
        }
        int[] due = {3, 2, 2, 0, 0, 0, -3};
        for (int i = 0; i < due.length; i++) {
            Due.due("20: undo() number " + i, x.undo(), due[i]);
        }
    }

    /** Promise 20: "(by ORDERS, too ..)": each that was run is undone alone, the latest first. */
    private static void ordersAreUndoneOneByOne() {
        TruthHats x = Halls.hats(2);
        runs(x, "hang 0 on 0;think 4 in 0;hang 1 on 1;pass;take 0;pass if 1=2", 5);
        int[] due = {1, 3, 0, 2, 0};
        int[] hours = {1, 0, 0, 0, 0};
        for (int i = 0; i < due.length; i++) {
            Due.due("39: how many can be undone", x.count(5), 5 - i);
            Due.due("20: undo() number " + i, x.undo(), due[i]);
            Due.due("20: HOUR behind it", x.count(13), hours[i]);
        }
        Due.refused(x, "20: one more", () -> x.undo(), -3);
    }

    /** Promise 20: "16 are kept": orders that could not be leave those that they would have driven out. */
    private static void ordersForgetTheOldest() {
        TruthHats x = Halls.hats(1);
        x.hang(0, 3);
        x.take(0);
        stops(x, "pass times 20;pass times 20;take 0", 2);
        Due.due("39: two can be undone", x.count(5), 2);
        runs(x, "pass times 13", 13);
        Due.due("39: fifteen", x.count(5), 15);
        runs(x, "pass", 1);
        Due.due("39: sixteen", x.count(5), 16);
        runs(x, "pass", 1);
        Due.due("39: sixteen of seventeen", x.count(5), 16);
        stops(x, "pass times 16;hang 0 on 10", 1);
        Due.due("39: sixteen as ahead of it", x.count(5), 16);
        for (int i = 0; i < 15; i++) {
            Due.due("20: undo() of pass", x.undo(), 3);
        }
        Due.due("20: undo() of take", x.undo(), 1);
        Due.refused(x, "20: the hang is forgotten", () -> x.undo(), -3);
        Due.due("20: it hangs", x.on(3), 0);
    }

    /** II: ""take" SUM | .. | "pass"": of these one SUM or none is asked, whatever stood there in earlier ORDERS. */
    private static void nothingIsLeftOfEarlierOrders() {
        // were the first number another one, this would be BROKEN
        String none = "0*1000*1000*1000*1000";
        TruthHats x = Halls.hats(2);
        runs(x, "hang 0 on 1", 1);
        runs(x, "take " + none, 1);
        runs(x, "hang 0 on 1+1;think 1 in 1;pass", 3);
        runs(x, "take " + none + ";take 1/0 if 1=2;pass if " + none + "=0", 2);
        runs(x, "pass if " + none + "=0;pass;pass times 2 if 0=" + none, 4);
        runs(x, "hang 1/0 on 1/0 if 1/0=1;think 1/0 in 1/0 if 1/0=1;take 1/0 if 1/0=1", 0);
        runs(x, "pass;pass;pass", 3);
        runs(x, "hang 1 on 3;take 1;pass", 3);
        runs(x, "hang 0 on 1;take 0;hang 0 on 0", 3);
        runs(x, "take " + none + ";pass", 2);
        runs(x, "think 2 in 0;think 3 in 0;think 4 in 0", 3);
        runs(x, "hang " + none + " on 5;pass times 2;take 0", 4);
    }

    /** II: the HOURS of ORDERS are told by the LAW in FORCE, as those of pass(). */
    private static void ordersGoByTheLawInForce() {
        TruthHats x = Halls.line(2, 8, 0, 1, 2);
        Due.law(x, "tells hour");
        x.force(0);
        runs(x, "pass;pass if latest=0;pass if latest=1;pass if latest=2", 4);
        Due.due("12: all was told", x.of(1, 3), 7);
    }
}
