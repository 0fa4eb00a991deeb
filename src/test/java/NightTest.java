/** Promises 21 to 28: what hats know hours on, where they had best hang, groups, the most talkative. */
public final class NightTest {
    public static void main(String[] args) {
        later();
        learns();
        still();
        hoursGoOnBeyondTheLast();
        paperLeavesTheHall();
        pegFor();
        pegForTheOneBetween();
        pegForCountsOthersAlone();
        cut();
        cutHours();
        quiet();
        quietWeights();
        quietOnlyWithFewOff();
        groups();
        talkative();
        Due.end("NightTest");
    }

    /** So many hats side by side from peg 2 on, the first of which knows these thoughts. */
    private static TruthHats line(int hats, int... thoughts) {
        TruthHats x = new TruthHats();
        for (int i = 0; i < hats; i++) {
            x.hat(i % 4, i);
            x.hang(i, 2 + i);
        }
        for (int thought : thoughts) {
            x.think(0, thought);
        }
        return x;
    }

    private static void later() {
        TruthHats x = line(3, 1, 3);
        x.hat(0, 0);
        int[] second = {0, 2, 10, 10};
        int[] third = {0, 0, 2, 10};
        for (int n = 0; n < 4; n++) {
            Due.due("21: later(1, " + n + ")", x.later(1, n), second[n]);
            Due.due("21: later(2, " + n + ")", x.later(2, n), third[n]);
            Due.due("21: later(3, " + n + ") of one that is off", x.later(3, n), 0);
        }
        Due.due("21: later(0, 60)", x.later(0, 60), 10);
        Due.due("21: later(2, 60)", x.later(2, 60), 10);
        Due.due("21: later(0, 61)", x.later(0, 61), -1);
        Due.due("21: later(0, -1)", x.later(0, -1), -1);
        Due.due("21: later(4, 0)", x.later(4, 0), -1);
        Due.due("21: later(-1, 0)", x.later(-1, 0), -1);
    }

    private static void learns() {
        TruthHats x = line(3, 1, 3);
        Due.due("22: learns(0, 3)", x.learns(0, 3), 0);
        Due.due("22: learns(1, 1)", x.learns(1, 1), 1);
        Due.due("22: learns(1, 3)", x.learns(1, 3), 2);
        Due.due("22: learns(2, 1)", x.learns(2, 1), 2);
        Due.due("22: learns(2, 3)", x.learns(2, 3), 3);
        Due.due("22: learns(2, 0)", x.learns(2, 0), -1);
        Due.due("22: learns(3, 1)", x.learns(3, 1), -1);
        Due.due("22: learns(-1, 1)", x.learns(-1, 1), -1);
        Due.due("22: learns(0, 8)", x.learns(0, 8), -1);
        Due.due("22: learns(0, -1)", x.learns(0, -1), -1);
        Due.law(x, "tells 0; tells 1 if hour = 60");
        x.force(0);
        Due.due("22: not in 60", x.learns(1, 1), -1);
        x.terms(0, 1);
        Due.due("22: in the 60th", x.learns(1, 1), 60);
    }

    private static void still() {
        TruthHats x = line(3, 1, 3);
        Due.due("23: still()", x.still(), 3);
        Due.due("23: still() of one hat", line(1, 0).still(), 0);
        Due.due("23: still() of hats that know nothing", line(4).still(), 0);
        Due.law(x, "tells 0; tells 1 if hour = 60");
        x.force(0);
        Due.due("23: nothing in the first 60", x.still(), 0);
        x.terms(0, 1);
        Due.due("23: something in the 60th", x.still(), 60);
        TruthHats y = line(2, 4);
        Due.law(y, "bars if hour < 5");
        y.force(0);
        Due.due("21: nothing in the first five", y.later(1, 5), 0);
        Due.due("21: something in the sixth", y.later(1, 9), 16);
        Due.due("25: in the sixth", y.cut(1, 4, 0), 1);
        Due.law(x, "tells 0; tells 1 if hour % 5 = 0");
        x.force(1);
        x.terms(0, 0);
        Due.due("23: hours between in which nothing is told", x.still(), 11);
    }

    private static void hoursGoOnBeyondTheLast() {
        TruthHats x = line(2, 4);
        Due.law(x, "tells 0; tells 1 if hour > 1000; weighs hour - 950");
        x.force(0);
        x.terms(0, 999);
        Due.due("22: in hour 1001", x.learns(1, 4), 3);
        Due.due("21: later(1, 2)", x.later(1, 2), 0);
        Due.due("21: later(1, 3)", x.later(1, 3), 16);
        Due.due("23: still()", x.still(), 3);
        Due.due("26: weights in hour 1002", x.quiet(3, -1), 2 * 52);
        Due.due("25: cut() has to take one off", x.cut(1, 4, 1), 1);
        Due.due("24: pegFor() in 3 hours", x.pegFor(0, 4, 1, 3), 2);
        Due.due("24: pegFor() in 2 hours", x.pegFor(0, 4, 1, 2), -1);
        Due.due("28: talkative(1)", x.talkative(1), 0);
    }

    private static void paperLeavesTheHall() {
        TruthHats x = line(3, 1, 3);
        x.hat(0, 0);
        Due.law(x, "tells 2");
        x.force(0);
        x.later(1, 60);
        x.learns(2, 0);
        x.still();
        x.pegFor(0, 1, 3, 60);
        x.cut(2, 1, 0);
        x.quiet(12, -1);
        x.compare(-1, 0, 1);
        x.capitals(4711, 60);
        Due.due("21 .. 35: hour", x.count(13), 0);
        Due.due("21 .. 35: hung", x.count(1), 3);
        Due.due("21 .. 35: hat 0 hangs where it was", x.on(2), 0);
        Due.due("21 .. 35: of(0, 3)", x.of(0, 3), 10);
        Due.due("21 .. 35: of(1, 3)", x.of(1, 3), 0);
        Due.due("21 .. 35: of(2, 3)", x.of(2, 3), 0);
        Due.due("21 .. 35: the law in force", x.count(12), 0);
        Due.due("21 .. 35: nothing to be undone", x.count(5), 0);
    }

    private static void pegFor() {
        TruthHats x = new TruthHats();
        for (int i = 0; i < 5; i++) {
            x.hat(0, 0);
        }
        x.think(0, 5);
        x.hang(1, 5);
        x.hang(2, 4);
        x.hang(3, 9);
        Due.due("24: beside the other one", x.pegFor(0, 5, 1, 1), 6);
        Due.due("24: as few on both sides", x.pegFor(0, 5, 1, 2), 3);
        Due.due("24: the one at the end", x.pegFor(0, 5, 3, 1), 8);
        Due.due("24: one that is off learns nothing", x.pegFor(0, 5, 4, 60), -1);
        Due.due("24: a thought that nobody knows", x.pegFor(0, 4, 1, 60), -1);
        x.think(4, 5);
        Due.due("24: one that is off and knows it", x.pegFor(0, 5, 4, 60), 0);
        Due.due("24: one that is off and knows it, by another hat", x.pegFor(2, 5, 4, 60), 0);
        x.hang(0, 6);
        Due.due("24: where it hangs", x.pegFor(0, 5, 1, 1), 6);
        Due.due("24: it hangs on no other one", x.pegFor(0, 5, 3, 1), 8);
        Due.due("24: two alike", x.pegFor(0, 5, 0, 1), -1);
        Due.due("24: thought 8", x.pegFor(0, 8, 1, 1), -1);
        Due.due("24: thought -1", x.pegFor(0, -1, 1, 1), -1);
        Due.due("24: 0 hours", x.pegFor(0, 5, 1, 0), -1);
        Due.due("24: 61 hours", x.pegFor(0, 5, 1, 61), -1);
        Due.due("24: 60 hours", x.pegFor(0, 5, 1, 60), 3);
        Due.due("24: no such hat", x.pegFor(5, 5, 1, 1), -1);
        Due.due("24: no such other", x.pegFor(0, 5, 5, 1), -1);
        Due.due("24: other -1", x.pegFor(0, 5, -1, 1), -1);
    }

    private static void pegForTheOneBetween() {
        TruthHats x = new TruthHats();
        for (int i = 0; i < 3; i++) {
            x.hat(0, 0);
        }
        x.hang(0, 3);
        x.think(0, 2);
        x.hang(1, 5);
        Due.due("24: between them it lets the other one learn", x.pegFor(2, 2, 1, 2), 4);
        Due.due("24: an hour is too few", x.pegFor(2, 2, 1, 1), -1);
        x.hang(2, 4);
        Due.due("24: where it hangs", x.pegFor(2, 2, 1, 2), 4);
        x.think(1, 2);
        Due.due("24: elsewhere it learns nothing, but it does not count", x.pegFor(2, 2, 1, 2), 0);
    }

    /** Neither of the two counts, and hat 0 does. */
    private static void pegForCountsOthersAlone() {
        TruthHats x = new TruthHats();
        for (int i = 0; i < 4; i++) {
            x.hat(0, 0);
        }
        x.hang(1, 1);
        x.think(1, 5);
        Due.due("24: it may learn it itself", x.pegFor(3, 5, 1, 1), 0);
        Due.due("24: 0 hours, though the other one knows it", x.pegFor(3, 5, 1, 0), -1);
        x.hang(0, 9);
        x.hang(2, 5);
        x.take(1);
        Due.due("24: beside the one, not both", x.pegFor(1, 5, 2, 60), 4);
        x.take(2);
        x.hang(2, 8);
        Due.due("24: hat 0 learns it, too", x.pegFor(1, 5, 2, 60), 7);
        Due.due("24: hat 0 learns it alone", x.pegFor(1, 5, 0, 1), -1);
        x.hang(3, 0);
        x.take(2);
        Due.due("24: one that knows it already counts wherever it hangs", x.pegFor(1, 5, 3, 1), 1);
        x.hang(2, 2);
        Due.due("24: no peg is beside that one alone", x.pegFor(1, 5, 3, 1), 1);
        x.think(0, 4);
        x.take(3);
        x.think(3, 4);
        x.take(2);
        x.take(0);
        x.hang(0, 7);
        Due.due("24: away from hat 0", x.pegFor(2, 4, 3, 1), 0);
        x.think(2, 3);
        x.think(3, 3);
        x.take(0);
        x.hang(0, 0);
        Due.due("24: hat 0 would learn it beside it", x.pegFor(2, 3, 3, 1), 2);
    }

    private static void cut() {
        TruthHats x = line(4, 1);
        Due.due("25: one is enough", x.cut(3, 1, 0), 1);
        Due.due("25: the lowest", x.cut(3, 1, 1), 1);
        x.think(1, 1);
        Due.due("25: two that know it, one between", x.cut(3, 1, 0), 1);
        Due.due("25: the lowest of those that know it", x.cut(3, 1, 1), 2);
        Due.due("25: one beside it", x.cut(2, 1, 1), 2);
        x.think(3, 1);
        Due.due("25: from both sides", x.cut(2, 1, 0), 2);
        Due.due("25: those of both sides", x.cut(2, 1, 1), 10);
        Due.due("25: a thought that nobody knows", x.cut(2, 0, 0), 0);
        Due.due("25: nobody", x.cut(2, 0, 1), 0);
        Due.due("25: it knows it", x.cut(3, 1, 0), -1);
        x.think(3, 2);
        Due.due("25: the lowest does not know it", x.cut(0, 2, 1), 2);
        x.take(2);
        Due.due("25: it is off", x.cut(2, 1, 0), 0);
        Due.due("25: it is off, who", x.cut(2, 1, 1), 0);
        Due.due("25: thought 8", x.cut(2, 8, 0), -1);
        Due.due("25: thought -1", x.cut(2, -1, 0), -1);
        Due.due("25: what 2", x.cut(2, 1, 2), -1);
        Due.due("25: what -1", x.cut(2, 1, -1), -1);
        Due.due("25: no such hat", x.cut(4, 1, 0), -1);
        Due.due("25: hat -1", x.cut(-1, 1, 0), -1);
    }

    private static void cutHours() {
        TruthHats x = line(2, 0);
        Due.law(x, "tells 0; tells 1 if hour > 59");
        x.force(0);
        Due.due("25: it would not know it in 60 hours", x.cut(1, 0, 0), 0);
        x.terms(0, 1);
        Due.due("25: it would in the 60th", x.cut(1, 0, 0), 1);
    }

    private static void quiet() {
        TruthHats x = new TruthHats();
        for (int i = 0; i < 3; i++) {
            x.hat(0, 0);
        }
        x.think(0, 0);
        x.think(0, 1);
        x.hang(0, 4);
        quietIs(x, 1, 2, 0, 1);
        x.think(1, 2);
        quietIs(x, 1, 3, 0, 2);
        quietIs(x, 12, 3, 0, 2);
        x.hang(1, 2);
        quietIs(x, 5, 3, 0);
        x.hang(2, 9);
        quietIs(x, 5, 3);
        x.take(2);
        x.hang(2, 3);
        Due.due("26: with none off just that, an hour on", x.quiet(1, -1), 5);
        Due.due("26: two hours on", x.quiet(2, -1), 8);
    }

    private static void quietIs(TruthHats x, int n, int weight, int... pegs) {
        Due.due("26: quiet(" + n + ", -1)", x.quiet(n, -1), weight);
        for (int i = 0; i < pegs.length; i++) {
            Due.due("26: quiet(" + n + ", " + i + ")", x.quiet(n, i), pegs[i]);
        }
        Due.due("26: not so many", x.quiet(n, pegs.length), -1);
        Due.due("26: quiet(" + n + ", -2)", x.quiet(n, -2), -1);
        Due.due("26: 0 hours", x.quiet(0, -1), -1);
        Due.due("26: 13 hours", x.quiet(13, -1), -1);
    }

    private static void quietWeights() {
        TruthHats x = new TruthHats();
        x.hat(0, 0);
        x.hat(0, 0);
        x.hang(0, 0);
        x.think(0, 0);
        Due.law(x, "weighs 10 - 8 * hat; tells 8");
        x.force(0);
        Due.due("26: each for each hat that knows it", x.quiet(1, -1), 10);
        Due.due("26: away from it", x.quiet(1, 0), 2);
        Due.law(x, "weighs 10; weighs 1 if knows = 2; bars if thought = 0");
        x.think(1, 4);
        x.force(1);
        Due.due("26: what makes thoughts weigh less", x.quiet(1, -1), 12);
        Due.due("26: beside it", x.quiet(1, 0), 1);
        Due.law(x, "weighs hour * 3");
        x.force(2);
        x.take(0);
        Due.due("26: weighed as the hour is then", x.quiet(4, -1), 2 * 12);
        Due.due("26: the first row of pegs", x.quiet(4, 0), 0);
        Due.due("26: not beside the first", x.quiet(4, 1), 2);
    }

    private static void quietOnlyWithFewOff() {
        TruthHats x = new TruthHats();
        Due.due("26: no hats", x.quiet(1, -1), 0);
        for (int i = 0; i < 3; i++) {
            x.hat(0, 0);
            x.think(i, i);
        }
        quietIs(x, 12, 3, 0, 2, 4);
        x.hat(0, 0);
        Due.due("26: four are off", x.quiet(1, -1), -1);
        Due.due("26: four are off, a peg", x.quiet(1, 0), -1);
        x.hang(0, 2);
        quietIs(x, 12, 3, 0, 4, 6);
    }

    private static void groups() {
        TruthHats x = new TruthHats();
        Due.due("27: none", x.groups(-1), 0);
        for (int i = 0; i < 7; i++) {
            x.hat(0, 0);
        }
        Due.due("27: none hangs", x.groups(-1), 0);
        int[] pegs = {9, 0, 1, 8, 3, 5};
        for (int i = 0; i < pegs.length; i++) {
            x.hang(i, pegs[i]);
        }
        Due.due("27: groups(-1)", x.groups(-1), 4);
        int[] sets = {9, 6, 6, 9, 16, 32, 0};
        for (int i = 0; i < sets.length; i++) {
            Due.due("27: groups(" + i + ")", x.groups(i), sets[i]);
        }
        x.hang(6, 4);
        Due.due("27: groups(-1) then", x.groups(-1), 3);
        Due.due("27: groups(5)", x.groups(5), 112);
        Due.due("27: groups(7)", x.groups(7), -1);
        Due.due("27: groups(-2)", x.groups(-2), -1);
    }

    private static void talkative() {
        TruthHats x = new TruthHats();
        Due.due("28: no hats", x.talkative(0), -1);
        x.hat(0, 0);
        x.hat(0, 0);
        x.hat(0, 0);
        Due.due("28: none tells any", x.talkative(0), 0);
        Due.due("28: how many then", x.talkative(1), 0);
        for (int i = 0; i < 3; i++) {
            x.hang(i, i);
            x.think(i, i);
        }
        Due.due("28: the one between tells both", x.talkative(0), 1);
        Due.due("28: one told to both counts twice", x.talkative(1), 2);
        Due.law(x, "tells 2");
        x.force(0);
        x.think(0, 5);
        Due.due("28: the lowest of those that tell two", x.talkative(0), 0);
        Due.due("28: two", x.talkative(1), 2);
        x.think(1, 6);
        Due.due("28: two to both", x.talkative(1), 4);
        x.take(1);
        Due.due("28: off it tells none", x.talkative(1), 0);
        Due.due("28: what 2", x.talkative(2), -1);
        Due.due("28: what -1", x.talkative(-1), -1);
    }
}
