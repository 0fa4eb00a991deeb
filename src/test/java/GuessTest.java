/** Promises 29 to 36: what was heard, which hat it can be, leaks, laws compared, capitals. */
public final class GuessTest {
    public static void main(String[] args) {
        heard();
        forget();
        canBe();
        ask();
        few();
        fewIsCut();
        compare();
        capitals();
        capitalsOnlyIfTheyCanBe();
        capitalsEndWithTheHours();
        drawn();
        Due.end("GuessTest");
    }

    private static void heard() {
        TruthHats x = new TruthHats();
        x.pass();
        Due.refused(x, "29: heard(8, 0)", () -> x.heard(8, 0), -1);
        Due.refused(x, "29: heard(-1, 0)", () -> x.heard(-1, 0), -1);
        Due.refused(x, "29: heard(0, 2)", () -> x.heard(0, 2), -1);
        Due.refused(x, "29: heard(0, -1)", () -> x.heard(0, -1), -1);
        for (int i = 1; i <= 6; i++) {
            int number = i;
            Due.fine(x, "29: heard() number " + i, () -> x.heard(7, 1), number);
        }
        Due.refused(x, "29: a seventh", () -> x.heard(0, 0), -5);
        Due.refused(x, "29: a seventh that can't be", () -> x.heard(8, 0), -1);
        Due.due("29: count(3)", x.count(3), 6);
        Due.due("29: it leaves what can be undone", x.count(5), 1);
    }

    private static void forget() {
        TruthHats x = new TruthHats();
        x.hat(0, 0);
        Due.due("30: forget() of nothing", x.forget(), 0);
        x.heard(1, 1);
        x.heard(1, 0);
        Due.due("31: it can't be both", x.canBe(), 0);
        x.heard(9, 9);
        Due.due("30: forget()", x.forget(), 2);
        Due.due("40: status() is not forget's", x.status(), -1);
        Due.due("30: count(3)", x.count(3), 0);
        Due.due("31: canBe() then", x.canBe(), 1);
    }

    private static TruthHats guessed(int... known) {
        TruthHats x = new TruthHats();
        byte[] row = new byte[known.length * 3];
        for (int i = 0; i < known.length; i++) {
            row[3 * i + 2] = (byte) known[i];
        }
        Due.putBytes(x, row);
        x.row();
        return x;
    }

    private static void canBe() {
        TruthHats x = guessed(3, 1, 2, 0, 255);
        Due.due("31: nothing was heard", x.canBe(), 31);
        x.heard(0, 1);
        Due.due("31: thought 0", x.canBe(), 19);
        x.heard(1, 0);
        Due.due("31: and not 1", x.canBe(), 2);
        x.forget();
        x.heard(7, 0);
        Due.due("31: not 7", x.canBe(), 15);
        x.heard(0, 0);
        x.heard(1, 0);
        Due.due("31: neither", x.canBe(), 8);
        x.think(3, 1);
        Due.due("31: as all know now", x.canBe(), 0);
    }

    private static void ask() {
        TruthHats x = guessed(3, 1, 6, 4, 255);
        Due.due("32: ask(0)", x.ask(0), 0);
        Due.due("32: ask(1)", x.ask(1), 3);
        x.heard(7, 0);
        Due.due("32: among four", x.ask(0), 0);
        Due.due("32: two are left", x.ask(1), 2);
        x.heard(0, 1);
        Due.due("32: among two", x.ask(0), 1);
        Due.due("32: one is left", x.ask(1), 1);
        x.heard(1, 1);
        Due.due("32: among one the lowest", x.ask(0), 0);
        Due.due("32: one stays", x.ask(1), 1);
        Due.due("32: what 2", x.ask(2), -1);
        Due.due("32: what -1", x.ask(-1), -1);
        x.heard(2, 1);
        Due.due("32: it can be none", x.ask(0), -1);
        Due.due("32: it can be none, how many", x.ask(1), -1);
        Due.due("32: no hats", new TruthHats().ask(0), -1);
    }

    private static void few() {
        TruthHats x = new TruthHats();
        Due.due("33: few(1, 1)", x.few(1, 1), 900000000000L);
        Due.due("33: few(1, 12)", x.few(1, 12), 282429536481L);
        x.terms(1, 3);
        Due.due("33: few(1, 0)", x.few(1, 0), 1000000000000L);
        Due.due("33: few(1, 1) of three in ten", x.few(1, 1), 700000000000L);
        Due.due("33: few(2, 1)", x.few(2, 1), 1000000000000L);
        Due.due("33: few(1, 2)", x.few(1, 2), 490000000000L);
        Due.due("33: few(2, 2)", x.few(2, 2), 910000000000L);
        Due.due("33: few(3, 3)", x.few(3, 3), 973000000000L);
        Due.due("33: few(20, 0)", x.few(20, 0), 1000000000000L);
        Due.due("33: few(20, 2)", x.few(20, 2), 1000000000000L);
        x.terms(1, 0);
        Due.due("33: nothing leaks", x.few(1, 99), 1000000000000L);
        x.terms(1, 10);
        Due.due("33: all leak", x.few(1, 1), 0);
        Due.due("33: 19 of 19", x.few(20, 19), 1000000000000L);
        Due.due("33: 20 of 20", x.few(20, 20), 0);
        Due.due("33: few(0, 1)", x.few(0, 1), -1);
        Due.due("33: few(21, 1)", x.few(21, 1), -1);
        Due.due("33: few(1, -1)", x.few(1, -1), -1);
        Due.due("33: few(1, 100)", x.few(1, 100), -1);
    }

    private static void fewIsCut() {
        TruthHats x = new TruthHats();
        Due.due("33: 9 to the 13th, cut", x.few(1, 13), 254186582832L);
        Due.due("33: and cut again", x.few(1, 14), 228767924548L);
        x.terms(1, 5);
        long parts = 1000000000000L;
        for (int n = 1; n <= 60; n++) {
            parts = parts * 5 / 10;
            Due.due("33: halves, " + n, x.few(1, n), parts);
        }
        Due.due("33: both parts are cut", x.few(20, 13), 1000000000000L - cutAway(13));
    }

    /** What cutting takes of all parts together, with five of ten. */
    private static long cutAway(int n) {
        long[] parts = new long[n + 2];
        parts[0] = 1000000000000L;
        for (int i = 0; i < n; i++) {
            long[] next = new long[n + 2];
            for (int j = 0; j <= n; j++) {
                next[j] += parts[j] * 5 / 10;
                next[j + 1] += parts[j] * 5 / 10;
            }
            parts = next;
        }
        long sum = 0;
        for (long part : parts) {
            sum += part;
        }
        return 1000000000000L - sum;
    }

    private static void compare() {
        TruthHats x = new TruthHats();
        x.hat(2, 0);
        x.hat(1, 4);
        Due.law(x, "tells tall + like");
        Due.law(x, "tells 7; bars");
        x.force(1);
        Due.due("34: by law 0", x.compare(0, 0, 1), 1);
        Due.due("34: by law 0, the other way", x.compare(0, 1, 0), 6);
        Due.due("34: by law 1", x.compare(1, 1, 0), 7);
        Due.due("34: by none", x.compare(-1, 1, 0), 1);
        Due.due("34: no such law", x.compare(2, 1, 0), -1);
        Due.due("34: law -2", x.compare(-2, 1, 0), -1);
        Due.due("34: one alone", x.compare(0, 1, 1), -1);
        Due.due("34: no such hat", x.compare(0, 2, 1), -1);
        Due.due("34: no such other", x.compare(0, 0, -1), -1);
        Due.due("34: the law in force stays", x.count(12), 1);
    }

    /** Of seed 25 and two hats come: 0 is hung on 3, 1 on 4, 0 is taken, 4 is thought into 0. */
    private static void capitals() {
        TruthHats x = new TruthHats();
        x.hat(0, 0);
        x.hat(0, 0);
        x.think(0, 6);
        capital(x, 25, 1, 0, 3, 64, -1, 0);
        capital(x, 25, 2, 1, 3, 64, 4, 64);
        capital(x, 25, 3, 1, -1, 64, 4, 64);
        capital(x, 25, 4, 1, -1, 80, 4, 64);
        capital(x, 24, 1, 0, -1, 64, -1, 128);
        capital(x, 24, 3, 0, -1, 64, -1, 128);
        Due.due("35: the hour stays", x.count(13), 0);
        Due.due("35: none hangs", x.count(1), 0);
        Due.due("35: one can be undone", x.count(5), 1);
    }

    private static void capital(TruthHats x, int seed, int n, int learnt, int... due) {
        Due.fine(x, "35: capitals(" + seed + ", " + n + ")", () -> x.capitals(seed, n), learnt);
        for (int i = 0; i < due.length; i++) {
            Due.due("36: drawn(" + i / 2 + ", " + i % 2 + ") of " + seed + ", " + n, x.drawn(i / 2, i % 2), due[i]);
        }
    }

    private static void capitalsOnlyIfTheyCanBe() {
        TruthHats x = new TruthHats();
        Due.refused(x, "35: no hats", () -> x.capitals(0, 1), -3);
        Due.refused(x, "35: seed -1", () -> x.capitals(-1, 1), -1);
        Due.refused(x, "35: seed 1000001", () -> x.capitals(1000001, 1), -1);
        Due.refused(x, "35: 0 times", () -> x.capitals(0, 0), -1);
        Due.refused(x, "35: 61 times", () -> x.capitals(0, 61), -1);
        x.hat(0, 0);
        // seed 3: of one hat, too, 0 is hung on 6
        capital(x, 3, 1, 0, 6, 0, -1, -1);
        x.hat(0, 0);
        // seed 0: hat 1, that is off, is taken; seed 7: 0 is hung on 7, on 5; seed 31: 0 is hung on 6
        capital(x, 0, 1, 0, -1, 0, -1, 0);
        capital(x, 7, 2, 0, 7, 0, -1, 0);
        x.hang(1, 6);
        capital(x, 31, 1, 0, -1, 0, 6, 0);
        x.think(1, 0);
        // seed 38: thought 0 is thought into 1
        capital(x, 38, 1, 0, -1, 0, 6, 1);
        x.hat(0, 0);
        Due.fine(x, "35: the greatest seed, the most times", () -> x.capitals(1000000, 60) * 0, 0);
    }

    private static void capitalsEndWithTheHours() {
        TruthHats x = new TruthHats();
        x.hat(0, 0);
        x.hat(0, 0);
        x.think(0, 6);
        x.terms(0, 997);
        capital(x, 25, 60, 1, 3, 64, 4, 64);
        x.terms(0, 999);
        capital(x, 25, 60, 0, -1, 64, -1, 0);
        Due.law(x, "tells 2; tells 0 if hour > 0");
        x.force(0);
        x.terms(0, 0);
        capital(x, 25, 2, 0, 3, 64, 4, 0);
    }

    private static void drawn() {
        TruthHats x = new TruthHats();
        x.hat(0, 0);
        Due.due("36: ahead of any", x.drawn(0, 0), -1);
        x.capitals(0, 61);
        Due.due("36: behind a refused one", x.drawn(0, 1), -1);
        x.hat(0, 0);
        x.think(0, 6);
        x.capitals(25, 1);
        x.hat(0, 0);
        x.think(1, 3);
        x.capitals(25, 0);
        Due.due("36: drawn(0, 0)", x.drawn(0, 0), 3);
        Due.due("36: drawn(0, 1)", x.drawn(0, 1), 64);
        Due.due("36: drawn(1, 1), as it was", x.drawn(1, 1), 0);
        Due.due("36: a hat that came behind it", x.drawn(2, 1), -1);
        Due.due("36: drawn(-1, 1)", x.drawn(-1, 1), -1);
        Due.due("36: what 2", x.drawn(0, 2), -1);
        Due.due("36: what -1", x.drawn(0, -1), -1);
    }
}
