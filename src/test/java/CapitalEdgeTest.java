/** Term IV and promises 9, 10, 29 to 40: each sentence that names a boundary, on both sides of it. */
public final class CapitalEdgeTest {
    private static final int MODULUS = 1000003;

    public static void main(String[] args) {
        seedZeroToAMillion();
        onceToSixtyTimes();
        drawsGoRound();
        drawsOfAllSeeds();
        drawsOfHats();
        eachIfItCanBe();
        whateverComesOfThem();
        thenTheHourPasses();
        asLongAsHourIsBelow999();
        onPaper();
        keptAsTheLatest();
        drawnWhats();
        rowByThrees();
        whatIsACap();
        aRowWithoutRoom();
        aRowOfFourHundredBytes();
        capsOfTheLatestRow();
        imagesZeroAndOne();
        imagesKeepAllThat();
        imagesDoNotKeep();
        imagesStay();
        imagesOfOtherHats();
        imagesOfABareAndAFullHall();
        nothingIsHeardOfNone();
        itCanBeAll();
        askTheLowest();
        fewOneToTwentyOfNinetyNine();
        leaksZeroAndTen();
        bothAreCut();
        countZeroToFifteen();
        statusOfFifteenCalls();
        statusIsLeftByOthers();
        Due.end("CapitalEdgeTest");
    }

    private static long next(long s) {
        return (s * 1103 + 12345) % MODULUS;
    }

    /** A seed whose n-th draw (1 on) becomes s. */
    private static int seedFor(long s, int n) {
        for (int seed = 0; seed <= 1000000; seed++) {
            long is = seed;
            for (int i = 0; i < n; i++) {
                is = next(is);
            }
            if (is == s) {
                return seed;
            }
        }
        return TruthHats.NONE;
    }

    /** So many hats under a law by which none tells any, so that the draws alone are seen. */
    private static TruthHats silent(int hats) {
        TruthHats x = Halls.hats(hats);
        Due.due("11: a law", Due.law(x, "tells 0"), 0);
        x.force(0);
        return x;
    }

    /** The draws once more, beside what drawn() tells behind capitals(). */
    private static void sameDraws(TruthHats x, int seed, int n) {
        int hats = x.count(0);
        int[] pegs = new int[hats];
        int[] known = new int[hats];
        for (int hat = 0; hat < hats; hat++) {
            pegs[hat] = x.of(hat, 2);
            known[hat] = x.of(hat, 3);
        }
        long s = seed;
        int hours = Math.min(n, 999 - x.count(13));
        for (int i = 0; i < hours; i++) {
            int[] draws = new int[4];
            int[] of = {hats, 10, 8, 4};
            for (int j = 0; j < 4; j++) {
                s = next(s);
                draws[j] = (int) (s % of[j]);
            }
            boolean isFree = true;
            for (int peg : pegs) {
                isFree &= peg != draws[1];
            }
            if (draws[3] == 0 && pegs[draws[0]] == -1 && isFree) {
                pegs[draws[0]] = draws[1];
            } else if (draws[3] == 1) {
                pegs[draws[0]] = -1;
            } else if (draws[3] == 2) {
                known[draws[0]] |= 1 << draws[2];
            }
        }
        Due.due("35: capitals(" + seed + ", " + n + ") that none tells", x.capitals(seed, n), 0);
        for (int hat = 0; hat < hats; hat++) {
            Due.due("36: drawn(" + hat + ", 0) of " + seed + ", " + n, x.drawn(hat, 0), pegs[hat]);
            Due.due("36: drawn(" + hat + ", 1) of " + seed + ", " + n, x.drawn(hat, 1), known[hat]);
        }
    }

    /** IV: "s is the SEED (0 .. 1,000,000)". */
    private static void seedZeroToAMillion() {
        TruthHats x = silent(3);
        Due.refused(x, "35: SEED -1", () -> x.capitals(-1, 60), -1);
        Due.due("36: there are none yet", x.drawn(0, 0), -1);
        sameDraws(x, 0, 60);
        sameDraws(x, 1000000, 60);
        sameDraws(x, 999999, 60);
        sameDraws(x, 1, 60);
        int peg = x.drawn(0, 0);
        Due.refused(x, "35: SEED 1000001", () -> x.capitals(1000001, 60), -1);
        Due.refused(x, "35: SEED 1000003", () -> x.capitals(1000003, 60), -1);
        Due.due("36: the latest stay", x.drawn(0, 0), peg);
    }

    /** IV: "n 1 .. 60". */
    private static void onceToSixtyTimes() {
        TruthHats x = silent(2);
        Due.refused(x, "35: 0 times", () -> x.capitals(5, 0), -1);
        Due.refused(x, "35: 61 times", () -> x.capitals(5, 61), -1);
        Due.due("36: there are none yet", x.drawn(0, 1), -1);
        for (int n = 1; n <= 60; n++) {
            sameDraws(silent(2), 5, n);
        }
    }

    /** IV: "s becomes (s times 1103 and 12345) modulo 1,000,003": draws that come to 0, to the greatest, and round. */
    private static void drawsGoRound() {
        for (long s : new long[] {0, 1, 2, MODULUS - 1, MODULUS - 2, MODULUS - 3, 500001, 500002}) {
            TruthHats x = silent(7);
            for (int n = 1; n <= 4; n++) {
                int seed = seedFor(s, n);
                if (seed != TruthHats.NONE) {
                    sameDraws(x, seed, 1);
                    sameDraws(x, seed, 7);
                }
            }
        }
        Due.due("IV: a seed for the greatest draw", seedFor(MODULUS - 1, 1) >= 0 ? 1 : 0, 1);
        Due.due("IV: a seed for a draw of 0", seedFor(0, 1) >= 0 ? 1 : 0, 1);
    }

    /** IV: the draws of many seeds and of each number of hats. */
    private static void drawsOfAllSeeds() {
        for (int hats = 1; hats <= 7; hats++) {
            TruthHats x = silent(hats);
            for (int i = 0; i < 13; i++) {
                sameDraws(x, (i * 76923 + hats * 7) % 1000001, 1 + i * 59 / 12);
            }
        }
    }

    /** IV: "DRAWS of HATS, of 10, of 8, of 4": of as many HATS as there are then. */
    private static void drawsOfHats() {
        TruthHats x = silent(1);
        for (int hats = 1; hats <= 7; hats++) {
            sameDraws(x, 424242, 60);
            Due.due("36: no more than " + hats, x.drawn(hats, 0), -1);
            x.hat(0, 0);
        }
    }

    /** IV: "HUNG on the PEG .., TAKEN, .. THOUGHT into it, each if it can be": if not, nothing, and no refusal. */
    private static void eachIfItCanBe() {
        for (int seed = 0; seed < 40; seed++) {
            TruthHats x = silent(3);
            for (int i = 0; i < 3; i++) {
                x.hang(i, 4 * i + 1);
                for (int thought = 0; thought < 8; thought++) {
                    x.think(i, thought);
                }
            }
            int of = seed;
            sameDraws(x, of, 1);
            Due.fine(x, "35: capitals(" + seed + ", 60)", () -> x.capitals(of, 60), 0);
            for (int hat = 0; hat < 3; hat++) {
                Due.due("36: it KNOWS all", x.drawn(hat, 1), 255);
            }
        }
    }

    /** IV: "whatever comes of them": four draws each time, though but one or two of them are looked at. */
    private static void whateverComesOfThem() {
        TruthHats x = silent(2);
        for (int last = 0; last < 4; last++) {
            for (int seed = 0; seed < 60; seed++) {
                long s = next(next(next(next(seed))));
                if (s % 4 == last) {
                    sameDraws(x, seed, 1);
                    sameDraws(x, seed, 2);
                    break;
                }
            }
        }
    }

    /** IV: "then the HOUR passes": behind the draws; promise 35: "how many THOUGHTS were learnt in their HOURS". */
    private static void thenTheHourPasses() {
        for (int seed = 0; seed < 400; seed++) {
            long[] draws = {next(seed), 0, 0, 0};
            for (int i = 1; i < 4; i++) {
                draws[i] = next(draws[i - 1]);
            }
            TruthHats x = Halls.line(2, 3, 6);
            boolean isThought = draws[3] % 4 == 2 && draws[0] % 2 == 0 && draws[2] % 8 < 6;
            boolean isTaken = draws[3] % 4 == 1;
            int learnt = isTaken ? 0 : draws[3] % 4 == 2 && draws[0] % 2 == 1 && draws[2] % 8 == 6 ? 0 : 1;
            if (draws[3] % 4 == 2 && draws[0] % 2 == 1 && draws[2] % 8 != 6) {
                learnt = 2;
            }
            Due.due("35: capitals(" + seed + ", 1)", x.capitals(seed, 1), learnt);
            if (isThought) {
                Due.due("36: the lower one is told first", x.drawn(1, 1), 1 << draws[2] % 8);
            } else if (isTaken) {
                Due.due("36: it is off", x.drawn((int) (draws[0] % 2), 0), -1);
            }
        }
    }

    /** IV: "as long as HOUR is below 999": at 998 once more, at 999 not at all; and then no DRAWS, either. */
    private static void asLongAsHourIsBelow999() {
        for (int hour = 994; hour <= 999; hour++) {
            for (int seed = 0; seed < 30; seed++) {
                TruthHats x = silent(2);
                x.terms(0, hour);
                sameDraws(x, seed, 60);
                sameDraws(x, seed, 3);
            }
            TruthHats y = Halls.line(7, 0, 0, 1, 2, 3, 4, 5, 6, 7);
            Due.law(y, "tells 0;tells 1 if hour=998 and hat=0");
            y.force(0);
            y.terms(0, hour);
            Due.due("35: learnt in hour 998, from " + hour, y.capitals(firstOfNothing(7), 1), hour == 998 ? 1 : 0);
        }
        TruthHats z = Halls.hats(2);
        z.hang(0, 4);
        z.think(1, 3);
        z.terms(0, 999);
        Due.fine(z, "35: capitals() at 999", () -> z.capitals(1000000, 60), 0);
        Due.due("36: they are kept, drawn(0, 0)", z.drawn(0, 0), 4);
        Due.due("36: drawn(1, 0)", z.drawn(1, 0), -1);
        Due.due("36: drawn(1, 1)", z.drawn(1, 1), 8);
    }

    /** The least seed of which nothing comes in the first draws. */
    private static int firstOfNothing(int hats) {
        int seed = 0;
        for (; seed < 1000 && next(next(next(next(seed)))) % 4 != 3; seed++) {
        }
        return seed;
    }

    /** IV: "on paper": the hall stays, and what can be undone. */
    private static void onPaper() {
        for (int n : new int[] {1, 60}) {
            TruthHats x = Halls.full();
            TruthHats y = Halls.full();
            x.terms(0, 0);
            y.terms(0, 0);
            x.pass();
            y.pass();
            Due.due("35: it can be", x.capitals(77, n) >= 0 ? 1 : 0, 1);
            for (int i = 0; i <= 15; i++) {
                Due.due("35: count(" + i + ") behind capitals()", x.count(i), y.count(i));
            }
            for (int hat = 0; hat < 7; hat++) {
                Due.due("35: of(" + hat + ", 2)", x.of(hat, 2), y.of(hat, 2));
                Due.due("35: of(" + hat + ", 3)", x.of(hat, 3), y.of(hat, 3));
            }
            Due.due("20: undo() behind capitals()", x.undo(), 3);
        }
    }

    /** Promise 35: "kept as the latest"; promise 36: "Behind the latest CAPITALS", whatever has changed since. */
    private static void keptAsTheLatest() {
        TruthHats x = silent(2);
        x.think(0, 6);
        x.hang(1, 9);
        x.image(0);
        int seed = firstOfNothing(2);
        x.capitals(seed, 1);
        x.take(1);
        x.think(0, 5);
        x.hat(0, 0);
        Due.due("36: drawn(0, 1)", x.drawn(0, 1), 64);
        Due.due("36: drawn(1, 0)", x.drawn(1, 0), 9);
        Due.due("36: a hat that came behind them", x.drawn(2, 0), -1);
        x.capitals(seed, 1);
        Due.due("36: the next ones, drawn(0, 1)", x.drawn(0, 1), 96);
        Due.due("36: drawn(1, 0)", x.drawn(1, 0), -1);
        Due.due("36: drawn(2, 1)", x.drawn(2, 1), 0);
        x.back(0);
        Due.due("36: IMAGES do not keep them, drawn(0, 1)", x.drawn(0, 1), 96);
        Due.due("36: drawn(1, 0) behind back()", x.drawn(1, 0), -1);
        x.capitals(seed, 61);
        Due.due("36: behind REFUSED ones", x.drawn(0, 1), 96);
    }

    /** Promise 36: "of HAT k the PEG (what 0; NONE: OFF), what it KNOWS, as bits (1). NONE." */
    private static void drawnWhats() {
        TruthHats x = silent(7);
        for (int what = -1; what <= 2; what++) {
            Due.due("36: ahead of any, drawn(0, " + what + ")", x.drawn(0, what), -1);
        }
        x.hang(0, 0);
        x.think(6, 7);
        x.capitals(firstOfNothing(7), 1);
        int[] first = {-1, 0, 0, -1};
        int[] last = {-1, -1, 128, -1};
        for (int what = -1; what <= 2; what++) {
            Due.due("36: drawn(0, " + what + ")", x.drawn(0, what), first[what + 1]);
            Due.due("36: drawn(6, " + what + ")", x.drawn(6, what), last[what + 1]);
            Due.due("36: drawn(-1, " + what + ")", x.drawn(-1, what), -1);
            Due.due("36: drawn(7, " + what + ")", x.drawn(7, what), -1);
        }
    }

    private static void row(int came, int caps, int... bytes) {
        TruthHats x = new TruthHats();
        byte[] row = new byte[bytes.length];
        for (int i = 0; i < bytes.length; i++) {
            row[i] = (byte) bytes[i];
        }
        Due.putBytes(x, row);
        String what = "row() of " + java.util.Arrays.toString(bytes);
        Due.fine(x, "9: " + what, () -> x.row(), came);
        Due.due("10: caps() behind " + what, x.caps(), caps);
        Due.due("39: HATS behind " + what, x.count(0), came);
        Due.due("39: the TAPE behind " + what, x.count(6), 0);
    }

    /** IV: "the TAPE's bytes by threes: KIND, TALL, THOUGHTS it KNOWS, as bits: a HAT, OFF". */
    private static void rowByThrees() {
        row(1, 0, 0, 0, 0);
        row(1, 0, 3, 9, 255);
        row(2, 0, 0, 9, 1, 3, 0, 128);
        TruthHats x = new TruthHats();
        Due.putBytes(x, new byte[] {3, 9, -1, 0, 0, 0, 1, 2, -128});
        Due.fine(x, "9: three hats", () -> x.row(), 3);
        int[][] due = {{3, 9, -1, 255, 8}, {0, 0, -1, 0, 0}, {1, 2, -1, 128, 1}};
        for (int hat = 0; hat < 3; hat++) {
            for (int what = 0; what < 5; what++) {
                Due.due("9: of(" + hat + ", " + what + ")", x.of(hat, what), due[hat][what]);
            }
        }
        Due.due("39: none is on a PEG", x.count(1), 0);
        TruthHats y = Halls.line(2, 0, 1);
        Due.putBytes(y, new byte[] {2, 2, 2});
        Due.fine(y, "9: one more hat", () -> y.row(), 1);
        Due.due("9: its number", y.of(2, 0), 2);
        Due.due("9: the others stay", y.of(0, 3), 2);
        Due.due("9: the others hang", y.count(1), 2);
        TruthHats z = new TruthHats();
        Due.refused(z, "9: the TAPE is empty", () -> z.row(), -6);
    }

    /** IV: "one that can't be, one within which the TAPE ends .. is a CAP: nothing." */
    private static void whatIsACap() {
        for (int kind : new int[] {0, 3, 4, 5, 127, 128, 252, 255}) {
            row(kind <= 3 ? 1 : 0, kind <= 3 ? 0 : 1, kind, 5, 5);
        }
        for (int tall : new int[] {0, 9, 10, 11, 127, 128, 246, 255}) {
            row(tall <= 9 ? 1 : 0, tall <= 9 ? 0 : 1, 2, tall, 5);
        }
        for (int known : new int[] {0, 1, 127, 128, 255}) {
            row(1, 0, 2, 2, known);
        }
        row(0, 1, 0);
        row(0, 1, 0, 0);
        row(1, 1, 0, 0, 0, 0);
        row(1, 1, 0, 0, 0, 0, 0);
        row(2, 0, 0, 0, 0, 0, 0, 0);
        row(0, 1, 4);
        row(0, 2, 4, 0, 0, 4);
        row(2, 2, 1, 1, 1, 9, 9, 9, 2, 2, 2, 0);
        // bytes that an earlier tape left behind its end are none of this one
        TruthHats x = new TruthHats();
        Due.putBytes(x, new byte[] {1, 1, 1, 2, 2, 2});
        x.end(5);
        Due.due("9: cut within the second", x.row(), 1);
        Due.due("10: it is a cap", x.caps(), 1);
    }

    /** IV: "one for which there is no room is a CAP"; the row itself is not REFUSED then. */
    private static void aRowWithoutRoom() {
        for (int there = 0; there <= 7; there++) {
            TruthHats x = Halls.hats(there);
            Due.putBytes(x, new byte[] {0, 0, 0, 0, 0, 0, 9, 0, 0, 0, 0, 0});
            int came = Math.min(3, 7 - there);
            Due.fine(x, "9: row() behind " + there + " hats", () -> x.row(), came);
            Due.due("10: caps() behind " + there + " hats", x.caps(), 4 - came);
            Due.due("39: HATS", x.count(0), there + came);
        }
    }

    /** IV: a TAPE of 400 bytes: 133 by threes, and one byte more. */
    private static void aRowOfFourHundredBytes() {
        TruthHats x = new TruthHats();
        for (int i = 0; i < 20; i++) {
            x.feed(0, 0, 0, 0, 0);
        }
        Due.fine(x, "9: row() of 400 bytes", () -> x.row(), 7);
        Due.due("10: caps()", x.caps(), 127);
        TruthHats y = new TruthHats();
        for (int i = 0; i < 20; i++) {
            y.feed(-1, -1, -1, -1, -1);
        }
        Due.fine(y, "9: row() of 400 bytes that can't be", () -> y.row(), 0);
        Due.due("10: caps() of these", y.caps(), 134);
    }

    /** Promise 10: "How many CAPS the latest row() had that was not REFUSED (0 ahead of any)." */
    private static void capsOfTheLatestRow() {
        TruthHats x = new TruthHats();
        Due.due("10: ahead of any", x.caps(), 0);
        x.row();
        Due.due("10: behind a REFUSED one", x.caps(), 0);
        Due.putBytes(x, new byte[] {9, 9, 9, 9});
        x.row();
        Due.due("10: two", x.caps(), 2);
        x.row();
        Due.due("10: behind a REFUSED one again", x.caps(), 2);
        x.hat(4, 4);
        Due.putBytes(x, new byte[] {1, 1, 1});
        Due.due("10: behind others", x.caps(), 2);
        x.row();
        Due.due("10: none", x.caps(), 0);
    }

    /** IV: "IMAGES 0, 1"; promise 37: "0; -1."; promise 38: "0. -1; -2 it was not kept." */
    private static void imagesZeroAndOne() {
        for (int k = -1; k <= 2; k++) {
            int of = k;
            boolean is = k == 0 || k == 1;
            TruthHats x = new TruthHats();
            Due.refused(x, "38: back(" + k + ") that was not kept", () -> x.back(of), is ? -2 : -1);
            if (is) {
                Due.fine(x, "37: image(" + k + ")", () -> x.image(of), 0);
                Due.fine(x, "38: back(" + k + ")", () -> x.back(of), 0);
                Due.refused(x, "38: the other one", () -> x.back(1 - of), -2);
            } else {
                Due.refused(x, "37: image(" + k + ")", () -> x.image(of), -1);
                Due.refused(x, "38: back(0) behind it", () -> x.back(0), -2);
                Due.refused(x, "38: back(1) behind it", () -> x.back(1), -2);
            }
        }
    }

    /** IV: "BACK to one all that it keeps is as it was then": hats, terms, laws, which is in FORCE, what was heard. */
    private static void imagesKeepAllThat() {
        TruthHats x = Halls.busy();
        TruthHats y = Halls.busy();
        x.image(1);
        x.take(0);
        x.hang(3, 4);
        x.think(0, 7);
        x.pass();
        x.hat(3, 3);
        x.terms(0, 1);
        x.terms(1, 1);
        x.terms(2, 1);
        Due.law(x, "tells 8");
        x.force(2);
        x.heard(7, 1);
        x.forget();
        Due.fine(x, "38: back(1)", () -> x.back(1), 0);
        for (int what : new int[] {0, 1, 2, 3, 4, 12, 13, 14, 15}) {
            Due.due("38: count(" + what + ") behind back()", x.count(what), y.count(what));
        }
        for (int hat = 0; hat < 7; hat++) {
            for (int what = 0; what < 5; what++) {
                Due.due("38: of(" + hat + ", " + what + ") behind back()", x.of(hat, what), y.of(hat, what));
            }
        }
        for (int peg = 0; peg < 10; peg++) {
            Due.due("38: on(" + peg + ") behind back()", x.on(peg), y.on(peg));
        }
        Due.due("38: canBe() behind back()", x.canBe(), y.canBe());
        Due.due("38: forget() behind back()", x.forget(), y.forget());
        Due.due("38: two(0, 1, 0) behind back()", x.two(0, 1, 0), y.two(0, 1, 0));
        Due.due("38: compare(0, 0, 1) behind back()", x.compare(0, 0, 1), y.compare(0, 0, 1));
        Due.due("38: compare(2, 0, 1) behind back()", x.compare(2, 0, 1), -1);
        Due.due("38: few(3, 9) behind back()", x.few(3, 9), y.few(3, 9));
    }

    /**
     * IV: "all but the TAPE, FAULT, CAPS, where ORDERS stopped, what can be undone (nothing, behind back()), the latest
     * CAPITALS".
     */
    private static void imagesDoNotKeep() {
        TruthHats x = Halls.busy();
        x.image(0);
        x.end(2);
        Due.due("37: image() leaves what can be undone", x.count(5), 4);
        x.back(0);
        Due.due("38: the TAPE", x.count(6), 2);
        Due.due("38: nothing can be undone", x.count(5), 0);
        Due.refused(x, "38: undo()", () -> x.undo(), -3);
        Due.due("38: FAULT", x.fault(), 5);
        Due.due("38: where ORDERS stopped", x.stopped(), 1);
        Due.due("38: CAPS", x.caps(), 1);
        Due.orders(x, "take 9;pass");
        Due.law(x, "weighs");
        Due.putBytes(x, new byte[] {8, 8, 8, 8, 8, 8, 8});
        x.row();
        int peg = x.drawn(1, 0);
        int known = x.drawn(1, 1);
        Due.putBytes(x, new byte[] {1, 2, 3});
        x.back(1);
        Due.due("38: the TAPE of now", x.count(6), 3);
        Due.due("38: FAULT of now", x.fault(), 6);
        Due.due("38: where ORDERS stopped of now", x.stopped(), 0);
        Due.due("38: CAPS of now", x.caps(), 3);
        Due.due("38: the latest CAPITALS, drawn(1, 0)", x.drawn(1, 0), peg);
        Due.due("38: drawn(1, 1)", x.drawn(1, 1), known);
        Due.due("38: of a hat that is there no more, drawn(3, 1)", x.drawn(3, 1) >= 0 ? 1 : 0, 1);
        Due.fine(x, "9: the TAPE's hat", () -> x.row(), 1);
        Due.due("9: what it KNOWS", x.of(1, 3), 3);
    }

    /** IV: "(IMAGES stay)": behind back(), and whatever comes behind image(). */
    private static void imagesStay() {
        TruthHats x = Halls.line(2, 0, 0);
        x.image(0);
        x.think(0, 1);
        x.image(1);
        x.think(0, 2);
        for (int i = 0; i < 3; i++) {
            Due.due("38: back(0)", x.back(0), 0);
            Due.due("38: of(0, 3) of image 0", x.of(0, 3), 1);
            x.pass();
            x.think(0, 7);
            Due.due("38: back(1)", x.back(1), 0);
            Due.due("38: of(0, 3) of image 1", x.of(0, 3), 3);
            Due.due("38: of(1, 3) of image 1", x.of(1, 3), 0);
            x.take(0);
            x.take(1);
        }
        Due.due("37: image(0) anew", x.image(0), 0);
        x.back(1);
        Due.due("38: it hangs in image 1", x.of(0, 2), 0);
        x.back(0);
        Due.due("38: it is off in the new image 0", x.of(0, 2), -1);
    }

    /** IV: "all that it keeps is as it was then": KIND and TALL of hats that have others in their place by now. */
    private static void imagesOfOtherHats() {
        TruthHats x = new TruthHats();
        x.image(0);
        x.hat(1, 2);
        x.hat(0, 9);
        x.hang(1, 0);
        x.image(1);
        x.back(0);
        x.hat(3, 7);
        x.hat(2, 0);
        x.hat(2, 1);
        x.hang(0, 0);
        Due.due("38: back(1)", x.back(1), 0);
        Due.due("38: KIND of hat 0", x.of(0, 0), 1);
        Due.due("38: TALL of hat 0", x.of(0, 1), 2);
        Due.due("38: KIND of hat 1", x.of(1, 0), 0);
        Due.due("38: TALL of hat 1", x.of(1, 1), 9);
        Due.due("38: hat 1 hangs", x.on(0), 1);
        Due.due("38: there is no hat 2", x.of(2, 0), -1);
    }

    /** IV: an IMAGE of a bare hall, and one of a full one. */
    private static void imagesOfABareAndAFullHall() {
        TruthHats x = new TruthHats();
        x.image(0);
        for (int i = 0; i < 7; i++) {
            x.hat(3, 9);
            x.hang(i, i);
            for (int thought = 0; thought < 8; thought++) {
                x.think(i, thought);
            }
        }
        for (int i = 0; i < 6; i++) {
            Due.law(x, "tells 5");
            x.heard(i, 1);
        }
        x.force(5);
        x.terms(0, 999);
        x.terms(1, 10);
        x.terms(2, 9);
        x.image(1);
        x.back(0);
        int[] bare = {0, 0, 0, 0, 0, 0, 0, 0, 0, 0, 0, 0, -1, 0, 1, 0};
        int[] full = {7, 7, 255, 6, 6, 0, 0, 0, 0, 0, 0, 0, 5, 999, 10, 9};
        for (int i = 0; i < bare.length; i++) {
            Due.due("38: count(" + i + ") of a bare hall", x.count(i), bare[i]);
        }
        Due.due("38: canBe() of a bare hall", x.canBe(), 0);
        Due.fine(x, "38: hat() there", () -> x.hat(0, 0), 0);
        Due.due("38: it KNOWS nothing", x.of(0, 3), 0);
        x.back(1);
        for (int i = 0; i < full.length; i++) {
            Due.due("38: count(" + i + ") of a full hall", x.count(i), full[i]);
        }
        Due.due("38: canBe() of a full hall", x.canBe(), 127);
        Due.refused(x, "38: hat() there", () -> x.hat(0, 0), -5);
        Due.refused(x, "38: heard() there", () -> x.heard(0, 0), -5);
        Due.refused(x, "38: pass() there", () -> x.pass(), -3);
    }

    /** Promise 30: "HEARD is nothing then: how many there were."; promise 31 without any, and without hats. */
    private static void nothingIsHeardOfNone() {
        TruthHats x = new TruthHats();
        Due.due("30: forget() of nothing", x.forget(), 0);
        Due.due("31: no HATS", x.canBe(), 0);
        x.heard(0, 0);
        Due.due("31: no HATS, whatever was heard", x.canBe(), 0);
        Due.due("32: it can be none", x.ask(0), -1);
        x.hat(0, 0);
        Due.due("31: one of one", x.canBe(), 1);
        x.heard(7, 1);
        Due.due("31: none of one", x.canBe(), 0);
        Due.due("30: forget() of two", x.forget(), 2);
        Due.due("31: one of one again", x.canBe(), 1);
    }

    /** III: "IT CAN BE: HATS of which all that was HEARD is so", of six, twice the same, both ways; OFF or not. */
    private static void itCanBeAll() {
        TruthHats x = new TruthHats();
        Due.putBytes(x, new byte[] {0, 0, 0, 0, 0, 1, 0, 0, 63, 0, 0, -1, 0, 0, 64, 0, 0, -128, 0, 0, 7});
        x.row();
        x.hang(3, 0);
        Due.due("31: nothing was heard", x.canBe(), 127);
        int[] due = {78, 76, 76, 12, 12, 12};
        for (int thought = 0; thought < 6; thought++) {
            x.heard(thought, 1);
            Due.due("31: all up to " + thought, x.canBe(), due[thought]);
        }
        x.forget();
        for (int i = 1; i <= 6; i++) {
            Due.due("29: the same one, " + i, x.heard(7, 0), i);
            Due.due("31: those that do not KNOW 7", x.canBe(), 1 + 2 + 4 + 16 + 64);
        }
        x.forget();
        x.heard(6, 1);
        x.heard(6, 0);
        Due.due("31: it can't be both", x.canBe(), 0);
    }

    /** III: "To ASK for": of one, of two, of seven; "the lowest". */
    private static void askTheLowest() {
        TruthHats x = Halls.hats(1);
        Due.due("32: of one, the lowest", x.ask(0), 0);
        Due.due("32: one is left", x.ask(1), 1);
        x.hat(0, 0);
        Due.due("32: of two that are alike", x.ask(0), 0);
        Due.due("32: two are left", x.ask(1), 2);
        x.think(1, 7);
        Due.due("32: by the highest THOUGHT", x.ask(0), 7);
        Due.due("32: one is left of two", x.ask(1), 1);
        x.think(0, 2);
        Due.due("32: hat 0 alone KNOWS 2", x.ask(0), 2);
        x.heard(2, 1);
        Due.due("32: it can be hat 0 alone", x.ask(0), 0);
        Due.due("32: hat 0 is left", x.ask(1), 1);
        TruthHats y = new TruthHats();
        Due.putBytes(y, new byte[] {0, 0, 1, 0, 0, 3, 0, 0, 3, 0, 0, 7, 0, 0, 14, 0, 0, 8, 0, 0, 8});
        y.row();
        Due.due("32: three know 3, four do not, as with 0", y.ask(0), 0);
        Due.due("32: four are left of seven", y.ask(1), 4);
        y.think(4, 0);
        y.think(5, 0);
        Due.due("32: now it is 1", y.ask(0), 1);
        Due.due("32: still four", y.ask(1), 4);
        Due.due("32: ask(-1)", y.ask(-1), -1);
        Due.due("32: ask(2)", y.ask(2), -1);
        TruthHats z = Halls.hats(7);
        Due.due("32: of seven that are alike, the lowest", z.ask(0), 0);
        Due.due("32: all seven are left", z.ask(1), 7);
        z.think(4, 5);
        Due.due("32: one of seven KNOWS 5", z.ask(0), 5);
        Due.due("32: six are left at most", z.ask(1), 6);
    }

    /** Promise 33: "FEW, k 1 .. 20, n 0 .. 99. NONE." */
    private static void fewOneToTwentyOfNinetyNine() {
        TruthHats x = new TruthHats();
        for (int k = -1; k <= 22; k++) {
            for (int n : new int[] {-1, 0, 1, 19, 20, 98, 99, 100}) {
                boolean is = k >= 1 && k <= 20 && n >= 0 && n <= 99;
                Due.due("33: few(" + k + ", " + n + ") can be", x.few(k, n) == -1 ? 0 : 1, is ? 1 : 0);
            }
            if (k >= 1 && k <= 20) {
                Due.due("33: of none fewer than " + k, x.few(k, 0), 1000000000000L);
            }
        }
    }

    /** I: "LEAKS 0 .. 10" of ten: at 0 none leaks, at 10 each does. */
    private static void leaksZeroAndTen() {
        TruthHats x = new TruthHats();
        x.terms(1, 0);
        TruthHats y = new TruthHats();
        y.terms(1, 10);
        for (int k = 1; k <= 20; k++) {
            for (int n : new int[] {0, 1, k - 1, k, k + 1, 99}) {
                Due.due("33: at 0, few(" + k + ", " + n + ")", x.few(k, n), 1000000000000L);
                Due.due("33: at 10, few(" + k + ", " + n + ")", y.few(k, n), n < k ? 1000000000000L : 0);
            }
        }
    }

    /** III: "each part times the rest by ten and times LEAKS by ten (one more), both cut". */
    private static void bothAreCut() {
        for (int leaks = 1; leaks <= 9; leaks++) {
            TruthHats x = new TruthHats();
            x.terms(1, leaks);
            long[] parts = new long[101];
            parts[0] = 1000000000000L;
            for (int n = 0; n <= 99; n++) {
                for (int k = 1; k <= 20; k += n % 10 == 9 ? 1 : 7) {
                    long sum = 0;
                    for (int j = 0; j < k; j++) {
                        sum += parts[j];
                    }
                    Due.due("33: LEAKS " + leaks + ", few(" + k + ", " + n + ")", x.few(k, n), sum);
                }
                long[] more = new long[101];
                for (int j = 0; j < 100; j++) {
                    more[j] += parts[j] * (10 - leaks) / 10;
                    more[j + 1] += parts[j] * leaks / 10;
                }
                parts = more;
            }
        }
    }

    /** Promise 39: "0 HATS .. 13 .. 15 TERMS 0 .. 2. NONE for others." */
    private static void countZeroToFifteen() {
        TruthHats x = Halls.full();
        x.hat(0, 0);
        x.hat(9, 9);
        x.hat(9, 9);
        x.take(7);
        x.take(6);
        x.take(6);
        x.take(6);
        Due.due("39: count(6)", x.count(6), 400);
        x.end(399);
        for (int i = 0; i < 4; i++) {
            x.orders();
        }
        x.law();
        int[] due = {-1, 7, 6, 255, 6, 6, 16, 0, 2, 1, 3, 2, 4, 5, 991, 10, 9, -1};
        for (int what = -1; what <= 16; what++) {
            Due.due("39: count(" + what + ")", x.count(what), due[what + 1]);
        }
    }

    /** Promise 40: "What the latest call of hat, terms, row .. was REFUSED by; 0 if it was not, or ahead of any." */
    private static void statusOfFifteenCalls() {
        TruthHats x = new TruthHats();
        Due.due("40: ahead of any", x.status(), 0);
        status(x, x.hat(9, 9), -1);
        status(x, x.hat(0, 0), 0);
        status(x, x.terms(9, 9), -1);
        status(x, x.terms(1, 5), 0);
        status(x, x.row(), -6);
        x.feed(-1, -1, -1, -1, -1);
        status(x, x.row(), 0);
        status(x, x.law(), -6);
        status(x, Due.law(x, "bars"), 0);
        status(x, x.orders(), -6);
        status(x, Due.orders(x, "pass"), 0);
        status(x, Due.orders(x, "take 0"), -3);
        status(x, x.force(0), 0);
        status(x, x.force(1), -2);
        status(x, x.hang(0, 0), 0);
        status(x, x.hang(0, 10), -1);
        status(x, x.take(0), 0);
        status(x, x.take(0), -3);
        status(x, x.think(0, 0), 0);
        status(x, x.think(1, 0), -2);
        status(x, x.pass(), 0);
        status(x, x.heard(8, 0), -1);
        status(x, x.heard(7, 0), 0);
        x.hat(9, 9);
        status(x, x.undo(), 0);
        status(x, x.capitals(0, 0), -1);
        status(x, x.capitals(0, 1), 0);
        status(x, x.back(0), -2);
        status(x, x.image(0), 0);
        status(x, x.image(2), -1);
        status(x, x.back(0), 0);
        status(x, x.undo(), -3);
        x.terms(0, 999);
        status(x, x.pass(), -3);
    }

    private static void status(TruthHats x, int answer, int due) {
        Due.due("40: status() behind an answer of " + answer, x.status(), due);
        Due.due("40: that answer", due < 0 ? answer : 0, due);
    }

    /** Promise 40: the calls that it does not name leave it, whether they answer NONE or not. */
    private static void statusIsLeftByOthers() {
        for (int reason : new int[] {0, -1, -2, -3, -5, -6}) {
            TruthHats x = Halls.full();
            for (int i = 0; i < 3; i++) {
                refuse(x, reason);
                Due.due("40: status() ahead of others", x.status(), reason);
                int hat = 3 * i - 1;
                x.of(hat, i);
                x.two(hat, 1, i);
                x.on(hat);
                x.feed(hat, 0, 0, 0, 0);
                x.end(hat);
                x.caps();
                x.fault();
                x.stopped();
                x.later(hat, 1);
                x.learns(hat, 1);
                x.still();
                x.pegFor(hat, 1, 1, 1);
                x.cut(hat, 1, i);
                x.quiet(i, -1);
                x.groups(hat);
                x.talkative(i);
                x.forget();
                x.canBe();
                x.ask(i);
                x.few(hat, i);
                x.compare(hat, 0, 1);
                x.drawn(hat, i);
                x.count(hat);
                x.status();
                Due.due("40: status() behind others", x.status(), reason);
            }
        }
    }

    private static void refuse(TruthHats x, int reason) {
        int answer = 0;
        switch (reason) {
            case -1:
                answer = x.hat(9, 9);
                break;
            case -2:
                answer = x.force(6);
                break;
            case -3:
                answer = x.hang(0, 0);
                break;
            case -5:
                answer = x.hat(0, 0);
                break;
            case -6:
                x.end(0);
                answer = x.row();
                break;
            default:
                x.image(0);
                break;
        }
        Due.due("40: it is refused by " + reason, answer, reason);
    }
}
