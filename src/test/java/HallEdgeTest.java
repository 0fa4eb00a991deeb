/** Term I and promises 1 to 6, 16 to 20: each sentence that names a boundary, on both sides of it. */
public final class HallEdgeTest {
    public static void main(String[] args) {
        aBareHall();
        nothingIsSharedByObjects();
        fiveHundredAndTwelveCalls();
        pegsZeroToNine();
        pegsInARow();
        sevenHatsAtMost();
        kindZeroToThree();
        tallZeroToNine();
        offAtFirst();
        knowsNoneAtFirst();
        thoughtsZeroToSevenAsBits();
        sixHeardAtMost();
        hourZeroTo999();
        leaksZeroTo10();
        rainZeroTo9();
        aTermIsWhatItWas();
        eachTermIsItsOwn();
        besideIsOneLowerAndOneHigher();
        ofWhats();
        twoWhats();
        onAPeg();
        toHang();
        toTake();
        toThink();
        anHourAtTheEnd();
        undoTellsWhich();
        sixteenAreKept();
        undosGoRound();
        undoLeavesTheRest();
        whatWasAheadCantBeUndone();
        Due.end("HallEdgeTest");
    }

    /** Promise 1: "A bare hall." Each question is asked of it. */
    private static void aBareHall() {
        TruthHats x = new TruthHats();
        int[] counts = {-1, 0, 0, 0, 0, 0, 0, 0, 0, 0, 0, 0, 0, -1, 0, 1, 0, -1};
        for (int i = 0; i < counts.length; i++) {
            Due.due("1: count(" + (i - 1) + ")", x.count(i - 1), counts[i]);
        }
        for (int i = -1; i <= 10; i++) {
            Due.due("1: on(" + i + ")", x.on(i), -1);
            Due.due("1: of(" + i + ", 0)", x.of(i, 0), -1);
            Due.due("1: later(" + i + ", 0)", x.later(i, 0), -1);
            Due.due("1: drawn(" + i + ", 1)", x.drawn(i, 1), -1);
            Due.due("1: groups(" + i + ")", x.groups(i), i == -1 ? 0 : -1);
            Due.due("1: talkative(" + i + ")", x.talkative(i), -1);
            Due.due("1: ask(" + i + ")", x.ask(i), -1);
        }
        Due.due("1: two(0, 1, 0)", x.two(0, 1, 0), -1);
        Due.due("1: compare(-1, 0, 1)", x.compare(-1, 0, 1), -1);
        Due.due("1: learns(0, 0)", x.learns(0, 0), -1);
        Due.due("1: still()", x.still(), 0);
        Due.due("1: pegFor(0, 0, 1, 1)", x.pegFor(0, 0, 1, 1), -1);
        Due.due("1: cut(0, 0, 0)", x.cut(0, 0, 0), -1);
        Due.due("1: quiet(1, -1)", x.quiet(1, -1), 0);
        Due.due("1: quiet(12, -1)", x.quiet(12, -1), 0);
        Due.due("1: quiet(1, 0)", x.quiet(1, 0), -1);
        Due.due("1: few(1, 1), one of ten leaks", x.few(1, 1), 900000000000L);
        Due.due("1: canBe()", x.canBe(), 0);
        Due.due("1: forget()", x.forget(), 0);
        Due.due("1: caps()", x.caps(), 0);
        Due.due("1: fault()", x.fault(), -1);
        Due.due("1: stopped()", x.stopped(), -1);
        Due.due("1: end(0)", x.end(0), 0);
        Due.due("1: status()", x.status(), 0);
        Due.fine(x, "1: force(-1)", () -> x.force(-1), -1);
        Due.fine(x, "1: image(0)", () -> x.image(0), 0);
        Due.fine(x, "1: back(0)", () -> x.back(0), 0);
        Due.fine(x, "1: pass()", () -> x.pass(), 0);
        Due.fine(x, "1: undo()", () -> x.undo(), 3);
    }

    /** Promise 1: a new object is a bare hall, whatever another one has become. */
    private static void nothingIsSharedByObjects() {
        TruthHats x = Halls.full();
        aBareHall();
        TruthHats y = new TruthHats();
        y.hat(3, 9);
        y.hang(0, 0);
        y.law();
        Due.due("1: the first one's hats", x.count(0), 7);
        Due.due("1: the first one's tape", x.count(6), 400);
        Due.due("1: on(0) of the first one", x.on(0), -1);
        Due.due("1: the first one's refusals", x.count(11), 0);
    }

    /** "An object is used for at most 512 calls": the last of these is answered, too. */
    private static void fiveHundredAndTwelveCalls() {
        TruthHats x = new TruthHats();
        for (int i = 0; i < 510; i++) {
            x.hat(4, 10);
        }
        Due.due("39: 510 refusals, in the 511th call", x.count(7), 510);
        Due.due("40: the 512th call", x.status(), -1);
        TruthHats y = new TruthHats();
        for (int i = 0; i < 511; i++) {
            y.pass();
        }
        Due.due("39: the hour, in the 512th call", y.count(13), 511);
    }

    /** I: "PEGS 0 .. 9". */
    private static void pegsZeroToNine() {
        for (int peg = -2; peg <= 11; peg++) {
            TruthHats x = Halls.hats(1);
            int there = peg;
            if (peg >= 0 && peg <= 9) {
                Due.fine(x, "I: hang(0, " + peg + ")", () -> x.hang(0, there), 0);
                Due.due("I: on(" + peg + ")", x.on(peg), 0);
                Due.due("I: of(0, 2)", x.of(0, 2), peg);
                Due.fine(x, "I: take(0) from " + peg, () -> x.take(0), peg);
            } else {
                Due.refused(x, "I: hang(0, " + peg + ")", () -> x.hang(0, there), -1);
                Due.due("I: of(0, 2)", x.of(0, 2), -1);
            }
            Due.due("I: on(" + peg + ") then", x.on(peg), -1);
        }
    }

    /** I: "PEGS 0 .. 9 in a row": the row has two ends, that are not beside one another. */
    private static void pegsInARow() {
        TruthHats x = Halls.hats(2);
        x.think(0, 1);
        x.hang(0, 0);
        Due.due("I: hang(1, 9) beside none", x.hang(1, 9), 0);
        Due.due("I: two groups", x.groups(-1), 2);
        Due.due("I: the group on peg 0", x.groups(0), 1);
        Due.due("I: later(1, 60)", x.later(1, 60), 0);
        Due.due("I: talkative(1)", x.talkative(1), 0);
        Due.due("I: pass()", x.pass(), 0);
    }

    /** I: "HATS 0 .. 6 (7 at most)". */
    private static void sevenHatsAtMost() {
        TruthHats x = new TruthHats();
        for (int i = 0; i < 7; i++) {
            int number = i;
            Due.due("I: count(0) ahead of hat " + i, x.count(0), i);
            Due.due("I: of(" + i + ", 0) ahead of it", x.of(i, 0), -1);
            Due.fine(x, "I: hat number " + i, () -> x.hat(0, 0), number);
            Due.due("I: of(" + i + ", 0) behind it", x.of(i, 0), 0);
        }
        Due.refused(x, "I: the eighth hat", () -> x.hat(0, 0), -5);
        Due.due("I: count(0)", x.count(0), 7);
        Due.due("I: of(7, 0)", x.of(7, 0), -1);
        for (int i = 0; i < 7; i++) {
            int number = i;
            Due.fine(x, "I: hang(" + i + ", ..)", () -> x.hang(number, number), i == 0 ? 0 : 1);
            Due.fine(x, "I: think(" + i + ", 0)", () -> x.think(number, 0), 1);
        }
        Due.due("I: all hang", x.count(1), 7);
        Due.due("I: all seven as bits", x.canBe(), 127);
    }

    /** I: "KIND 0 .. 3". */
    private static void kindZeroToThree() {
        TruthHats x = new TruthHats();
        Due.refused(x, "I: KIND -1", () -> x.hat(-1, 5), -1);
        Due.refused(x, "I: KIND 4", () -> x.hat(4, 5), -1);
        for (int kind = 0; kind <= 3; kind++) {
            int of = kind;
            Due.fine(x, "I: KIND " + kind, () -> x.hat(of, 5), kind);
            Due.due("3: its KIND", x.of(kind, 0), kind);
        }
    }

    /** I: "TALL 0 .. 9". */
    private static void tallZeroToNine() {
        for (int tall = -1; tall <= 10; tall++) {
            TruthHats x = new TruthHats();
            int as = tall;
            if (tall >= 0 && tall <= 9) {
                Due.fine(x, "I: TALL " + tall, () -> x.hat(3, as), 0);
                Due.due("3: how TALL", x.of(0, 1), tall);
            } else {
                Due.refused(x, "I: TALL " + tall, () -> x.hat(3, as), -1);
            }
        }
    }

    /** I: "on a PEG or OFF (at first)"; promise 2: "OFF", in the place of one that hung, too. */
    private static void offAtFirst() {
        TruthHats x = new TruthHats();
        x.image(0);
        x.hat(2, 2);
        x.hang(0, 3);
        x.think(0, 3);
        x.back(0);
        Due.due("I: none hangs", x.on(3), -1);
        Due.due("2: hat()", x.hat(1, 1), 0);
        Due.due("3: the PEG (NONE: OFF)", x.of(0, 2), -1);
        Due.due("3: what it KNOWS", x.of(0, 3), 0);
        Due.due("3: its KIND", x.of(0, 0), 1);
        Due.due("39: how many are on PEGS", x.count(1), 0);
    }

    /** I: "which of THOUGHTS 0 .. 7 it KNOWS, as bits (none at first)"; promise 2: "A HAT that KNOWS nothing". */
    private static void knowsNoneAtFirst() {
        TruthHats x = Halls.hats(7);
        for (int hat = 0; hat < 7; hat++) {
            Due.due("I: hat " + hat + " KNOWS none", x.of(hat, 3), 0);
            Due.due("3: WORTH of it", x.of(hat, 4), 0);
        }
        Due.due("39: THOUGHTS that any HAT KNOWS", x.count(2), 0);
    }

    /** I: "THOUGHTS 0 .. 7", told as bits. */
    private static void thoughtsZeroToSevenAsBits() {
        for (int thought = -1; thought <= 8; thought++) {
            TruthHats x = Halls.hats(1);
            int it = thought;
            if (thought >= 0 && thought <= 7) {
                Due.fine(x, "I: think(0, " + thought + ")", () -> x.think(0, it), 1);
                Due.due("I: of(0, 3)", x.of(0, 3), 1 << thought);
                Due.due("I: count(2)", x.count(2), 1 << thought);
                Due.due("I: learns(0, " + thought + ")", x.learns(0, thought), 0);
                Due.fine(x, "I: heard(" + thought + ", 1)", () -> x.heard(it, 1), 1);
                Due.due("I: canBe()", x.canBe(), 1);
            } else {
                Due.refused(x, "I: think(0, " + thought + ")", () -> x.think(0, it), -1);
                Due.refused(x, "I: heard(" + thought + ", 1)", () -> x.heard(it, 1), -1);
                Due.due("I: learns(0, " + thought + ")", x.learns(0, thought), -1);
            }
        }
    }

    /** I: "HEARD, 6 at most: a HAT nobody knows KNOWS a THOUGHT, or not." */
    private static void sixHeardAtMost() {
        TruthHats x = Halls.hats(2);
        x.think(1, 7);
        for (int i = 1; i <= 6; i++) {
            int number = i;
            Due.fine(x, "29: heard() number " + i, () -> x.heard(7, 1), number);
            Due.due("39: HEARD", x.count(3), i);
        }
        Due.refused(x, "29: the seventh", () -> x.heard(7, 0), -5);
        Due.due("39: HEARD then", x.count(3), 6);
        Due.due("31: the seventh was not heard", x.canBe(), 2);
        Due.due("30: forget() of a full row", x.forget(), 6);
        Due.due("31: nothing was heard", x.canBe(), 3);
        Due.fine(x, "29: there is room again", () -> x.heard(7, 0), 1);
        Due.due("31: canBe() then", x.canBe(), 1);
        Due.due("30: forget() of one", x.forget(), 1);
        Due.due("31: that it is not known is forgotten, too", x.canBe(), 3);
        Due.due("30: forget() of none", x.forget(), 0);
    }

    private static void term(int what, int first, int most) {
        TruthHats x = new TruthHats();
        String name = "I: terms(" + what + ", ";
        Due.due("I: TERM " + what + " at first", x.count(13 + what), first);
        Due.fine(x, name + most + ")", () -> x.terms(what, most), first);
        Due.due("39: TERM " + what, x.count(13 + what), most);
        Due.refused(x, name + (most + 1) + ")", () -> x.terms(what, most + 1), -1);
        Due.due("39: TERM " + what + " stays", x.count(13 + what), most);
        Due.fine(x, name + "0)", () -> x.terms(what, 0), most);
        Due.refused(x, name + "-1)", () -> x.terms(what, -1), -1);
        Due.due("39: TERM " + what + " stays", x.count(13 + what), 0);
        for (int other = 0; other < 3; other++) {
            int due = other == what ? 0 : other == 1 ? 1 : 0;
            Due.due("6: TERM " + other + " behind that of " + what, x.count(13 + other), due);
        }
    }

    /** I: "0 HOUR 0 .. 999 (0 at first)". */
    private static void hourZeroTo999() {
        term(0, 0, 999);
    }

    /** I: "1 LEAKS 0 .. 10 (1)". */
    private static void leaksZeroTo10() {
        term(1, 1, 10);
    }

    /** I: "2 RAIN 0 .. 9 (0)". */
    private static void rainZeroTo9() {
        term(2, 0, 9);
    }

    /** Promise 6: "A TERM: what it was." An answer of 0 or 1 is what it was, too. */
    private static void aTermIsWhatItWas() {
        TruthHats x = new TruthHats();
        Due.refused(x, "6: terms(-1, 1)", () -> x.terms(-1, 1), -1);
        Due.refused(x, "6: terms(3, 1)", () -> x.terms(3, 1), -1);
        Due.fine(x, "6: HOUR", () -> x.terms(0, 17), 0);
        Due.fine(x, "6: HOUR, to what it is", () -> x.terms(0, 17), 17);
        Due.fine(x, "6: LEAKS", () -> x.terms(1, 7), 1);
        Due.fine(x, "6: LEAKS again", () -> x.terms(1, 0), 7);
        Due.fine(x, "6: RAIN", () -> x.terms(2, 5), 0);
        Due.fine(x, "6: RAIN again", () -> x.terms(2, 9), 5);
        x.pass();
        Due.fine(x, "6: HOUR behind pass()", () -> x.terms(0, 0), 18);
    }

    /** I: "TERMS: 0 HOUR .., 1 LEAKS .., 2 RAIN": to set one leaves the two others, whatever all three are. */
    private static void eachTermIsItsOwn() {
        int[] most = {999, 10, 9};
        for (int what = 0; what < 3; what++) {
            for (int value = 0; value <= 9; value += 3) {
                int[] due = {77, 5, 7};
                TruthHats x = new TruthHats();
                for (int term = 0; term < 3; term++) {
                    x.terms(term, due[term]);
                }
                int as = what;
                int to = value == 9 ? most[what] : value;
                Due.fine(x, "6: terms(" + what + ", " + to + ")", () -> x.terms(as, to), due[what]);
                due[what] = to;
                for (int term = 0; term < 3; term++) {
                    Due.due("39: TERM " + term + " behind it", x.count(13 + term), due[term]);
                }
            }
        }
    }

    /** I: "BESIDE a HAT on a PEG is the one on the PEG one lower, that on the PEG one higher." */
    private static void besideIsOneLowerAndOneHigher() {
        for (int peg = 0; peg <= 9; peg++) {
            for (int other = 0; other <= 9; other++) {
                if (other != peg) {
                    TruthHats x = Halls.hats(3);
                    x.think(0, 2);
                    x.hang(0, peg);
                    int beside = Math.abs(peg - other) == 1 ? 1 : 0;
                    Due.due("I: hang on " + other + " beside " + peg, x.hang(1, other), beside);
                    Due.due("I: it is told", x.later(1, 1), beside * 4);
                    Due.due("I: one that is OFF is not", x.later(2, 60), 0);
                    Due.due("I: talkative(1)", x.talkative(1), beside);
                }
            }
        }
    }

    /** Promise 3: "KIND (what 0), TALL (1), the PEG (2; NONE: OFF), what it KNOWS, as bits (3), WORTH (4). NONE." */
    private static void ofWhats() {
        TruthHats x = Halls.hats(4);
        x.hang(3, 0);
        for (int thought = 0; thought < 8; thought++) {
            x.think(3, thought);
        }
        int[] due = {-1, 3, 3, 0, 255, 8, -1};
        for (int what = -1; what <= 5; what++) {
            Due.due("3: of(3, " + what + ")", x.of(3, what), due[what + 1]);
        }
        Due.due("3: of(-1, 2)", x.of(-1, 2), -1);
        Due.due("3: of(4, 2)", x.of(4, 2), -1);
        Due.law(x, "weighs 99");
        x.force(0);
        Due.due("3: the greatest WORTH", x.of(3, 4), 8 * 99);
    }

    /** Promise 4: "what 0 .. whether THOUGHT t is BARRED (1 + t: 1, 0)": 8 is thought 7, 9 is none. */
    private static void twoWhats() {
        TruthHats x = Halls.hats(2);
        Due.law(x, "tells 5; bars if thought = 0 or thought = 7");
        x.force(0);
        int[] due = {-1, 5, 1, 0, 0, 0, 0, 0, 0, 1, -1};
        for (int what = -1; what <= 9; what++) {
            Due.due("4: two(0, 1, " + what + ")", x.two(0, 1, what), due[what + 1]);
            Due.due("4: two(1, 0, " + what + ")", x.two(1, 0, what), due[what + 1]);
            Due.due("4: one alone, two(1, 1, " + what + ")", x.two(1, 1, what), -1);
        }
    }

    /** Promise 5: "The HAT on a PEG. NONE." */
    private static void onAPeg() {
        TruthHats x = Halls.line(7, 3);
        int[] due = {-1, -1, -1, -1, 0, 1, 2, 3, 4, 5, 6, -1};
        for (int peg = -1; peg <= 10; peg++) {
            Due.due("5: on(" + peg + ")", x.on(peg), due[peg + 1]);
        }
        x.take(6);
        Due.due("5: on(9) then", x.on(9), -1);
        x.image(0);
        x.take(0);
        x.back(0);
        Due.due("5: on(3) behind back()", x.on(3), 0);
    }

    /** III: "To HANG: a HAT that is OFF is on a PEG on which there is none." Promise 16: "how many .. then." */
    private static void toHang() {
        TruthHats x = Halls.hats(5);
        Due.fine(x, "16: on 0, the lowest", () -> x.hang(0, 0), 0);
        Due.fine(x, "16: on 2", () -> x.hang(1, 2), 0);
        Due.fine(x, "16: on 1, between both", () -> x.hang(2, 1), 2);
        Due.fine(x, "16: on 9, the highest", () -> x.hang(3, 9), 0);
        Due.fine(x, "16: on 8, beside it", () -> x.hang(4, 8), 1);
        Due.refused(x, "16: one that hangs", () -> x.hang(4, 7), -3);
        x.take(4);
        Due.refused(x, "16: where one hangs", () -> x.hang(4, 9), -3);
        Due.fine(x, "16: where it hung", () -> x.hang(4, 8), 1);
    }

    /** III: "To TAKE: one on a PEG is OFF." Promise 17: "the PEG it was on." */
    private static void toTake() {
        TruthHats x = Halls.line(2, 0, 3);
        Due.fine(x, "17: from 0", () -> x.take(0), 0);
        Due.refused(x, "17: one that is OFF", () -> x.take(0), -3);
        Due.due("17: it KNOWS what it knew", x.of(0, 3), 8);
        Due.due("17: none tells it of any", x.later(1, 60), 0);
        x.hang(0, 9);
        Due.fine(x, "17: from 9", () -> x.take(0), 9);
        Due.fine(x, "17: the other one", () -> x.take(1), 1);
    }

    /** III: "To THINK: a HAT KNOWS a THOUGHT that it did not." Promise 18: "how many THOUGHTS it KNOWS then." */
    private static void toThink() {
        TruthHats x = Halls.hats(2);
        for (int i = 0; i < 8; i++) {
            int thought = (i * 3 + 7) % 8;
            Due.fine(x, "18: think(1, " + thought + ")", () -> x.think(1, thought), i + 1);
            Due.refused(x, "18: think(1, " + thought + ") again", () -> x.think(1, thought), -3);
        }
        Due.due("18: all eight", x.of(1, 3), 255);
        Due.due("18: the other one none", x.of(0, 3), 0);
        Due.fine(x, "18: the other one, off as it is", () -> x.think(0, 7), 1);
    }

    /** III: "it is the next HOUR (at 999 it can't be)": at 998 it can. */
    private static void anHourAtTheEnd() {
        TruthHats x = Halls.line(2, 4, 0, 1);
        x.terms(0, 997);
        Due.fine(x, "19: pass() at 997", () -> x.pass(), 1);
        Due.fine(x, "19: pass() at 998", () -> x.pass(), 1);
        Due.due("19: HOUR", x.count(13), 999);
        x.think(0, 2);
        Due.refused(x, "19: pass() at 999", () -> x.pass(), -3);
        Due.due("19: HOUR stays", x.count(13), 999);
        Due.due("19: nothing was told", x.of(1, 3), 3);
        Due.fine(x, "20: the thought is undone", () -> x.undo(), 2);
        Due.fine(x, "20: the hour is undone", () -> x.undo(), 3);
        Due.due("20: HOUR", x.count(13), 998);
        Due.fine(x, "19: pass() at 998 again", () -> x.pass(), 1);
    }

    /** Promise 20: "The latest hang(), take(), think(), pass() .. is undone: 0 .. 3." */
    private static void undoTellsWhich() {
        TruthHats x = Halls.hats(1);
        x.hang(0, 5);
        x.think(0, 1);
        x.take(0);
        x.pass();
        int[] due = {3, 1, 2, 0};
        for (int i = 0; i < due.length; i++) {
            int kind = due[i];
            Due.due("39: how many can be undone", x.count(5), 4 - i);
            Due.fine(x, "20: undo() number " + i, () -> x.undo(), kind);
        }
        Due.due("39: none can be undone", x.count(5), 0);
        Due.refused(x, "20: undo() of none", () -> x.undo(), -3);
    }

    /** Promise 20: "16 are kept": of 15, 16, 17 and more, done one by one. */
    private static void sixteenAreKept() {
        for (int n : new int[] {1, 15, 16, 17, 31, 32, 33, 48, 49, 100}) {
            TruthHats x = Halls.hats(1);
            for (int i = 0; i < n; i++) {
                x.pass();
            }
            int kept = Math.min(n, 16);
            Due.due("20: count(5) of " + n, x.count(5), kept);
            for (int i = 0; i < kept; i++) {
                Due.due("20: undo() number " + i + " of " + n, x.undo(), 3);
                Due.due("20: HOUR behind it", x.count(13), n - 1 - i);
                Due.due("20: count(5) behind it", x.count(5), kept - 1 - i);
            }
            Due.refused(x, "20: one more of " + n, () -> x.undo(), -3);
            Due.due("20: HOUR stays", x.count(13), n - kept);
        }
    }

    /** Promise 20: "16 are kept": the oldest are forgotten, also when some were undone in between. */
    private static void undosGoRound() {
        TruthHats x = Halls.hats(2);
        x.think(1, 5);
        for (int i = 0; i < 10; i++) {
            x.hang(0, i);
            x.take(0);
        }
        for (int i = 9; i >= 5; i--) {
            Due.due("20: undo() of take", x.undo(), 1);
            Due.due("20: it hangs on " + i, x.of(0, 2), i);
            Due.due("20: undo() of hang", x.undo(), 0);
            Due.due("20: it is off", x.of(0, 2), -1);
        }
        Due.due("20: six are left", x.count(5), 6);
        for (int i = 0; i < 8; i++) {
            x.think(0, i);
        }
        Due.due("20: fourteen", x.count(5), 14);
        x.hang(0, 0);
        x.hang(1, 1);
        x.pass();
        Due.due("20: sixteen of seventeen", x.count(5), 16);
        Due.due("20: what was told is undone", x.undo(), 3);
        Due.due("20: of(1, 3)", x.of(1, 3), 32);
        x.undo();
        x.undo();
        for (int i = 7; i >= 0; i--) {
            Due.due("20: undo() of think", x.undo(), 2);
            Due.due("20: what it KNOWS", x.of(0, 3), (1 << i) - 1);
        }
        for (int i = 4; i > 2; i--) {
            Due.due("20: undo() of take again", x.undo(), 1);
            Due.due("20: it hangs on " + i + " again", x.of(0, 2), i);
            Due.due("20: undo() of hang again", x.undo(), 0);
        }
        Due.due("20: undo() of the oldest that is kept", x.undo(), 1);
        Due.refused(x, "20: the one ahead of it is forgotten", () -> x.undo(), -3);
        Due.due("20: it hangs on 2", x.of(0, 2), 2);
    }

    /** Promise 20: "(PEGS, what all KNOW, HOUR are as they were)": laws, the other terms, what was heard are not. */
    private static void undoLeavesTheRest() {
        TruthHats x = Halls.line(2, 0, 1);
        x.pass();
        Due.law(x, "tells 3");
        x.force(0);
        x.heard(1, 1);
        x.image(0);
        x.feed(0, 0, 0, 0, 0);
        Due.due("11, 15, 29: they leave what can be undone", x.count(5), 4);
        Due.due("20: undo()", x.undo(), 3);
        Due.due("20: HOUR", x.count(13), 0);
        Due.due("20: what it KNOWS", x.of(1, 3), 0);
        Due.due("20: LAWS", x.count(4), 1);
        Due.due("20: the LAW in FORCE", x.count(12), 0);
        Due.due("20: HEARD", x.count(3), 1);
        Due.due("20: the TAPE", x.count(6), 20);
        Due.due("38: back(0) to behind the hour", x.back(0), 0);
        Due.due("38: HOUR", x.count(13), 1);
    }

    /** Promise 20: "nothing that was ahead of a hat(), terms(), row(), back() that was not REFUSED can be undone". */
    private static void whatWasAheadCantBeUndone() {
        TruthHats x = Halls.hats(7);
        x.image(0);
        for (int i = 0; i < 20; i++) {
            x.pass();
        }
        Due.refused(x, "2: a hat() that is refused", () -> x.hat(0, 0), -5);
        Due.refused(x, "2: another one", () -> x.hat(4, 0), -1);
        Due.refused(x, "6: terms() that are refused", () -> x.terms(0, 1000), -1);
        Due.refused(x, "9: a row() that is refused", () -> x.row(), -6);
        Due.refused(x, "38: a back() that is refused", () -> x.back(1), -2);
        Due.refused(x, "38: another one", () -> x.back(2), -1);
        Due.due("20: refused, they leave what can be undone", x.count(5), 16);
        Due.due("20: undo() behind them", x.undo(), 3);
        Due.fine(x, "6: terms() to what it is", () -> x.terms(1, 1), 1);
        Due.due("20: count(5) behind terms()", x.count(5), 0);
        x.pass();
        Due.putBytes(x, new byte[] {0, 0, 0});
        Due.fine(x, "9: a row() of one CAP, for which there is no room", () -> x.row(), 0);
        Due.due("20: count(5) behind row()", x.count(5), 0);
        x.pass();
        Due.fine(x, "38: back(0)", () -> x.back(0), 0);
        Due.due("20: count(5) behind back()", x.count(5), 0);
        TruthHats y = Halls.line(2, 1);
        Due.fine(y, "2: hat()", () -> y.hat(0, 0), 2);
        Due.due("20: count(5) behind hat()", y.count(5), 0);
        Due.refused(y, "20: undo() behind hat()", () -> y.undo(), -3);
        y.hang(2, 9);
        Due.due("20: what came behind it can be", y.undo(), 0);
        Due.refused(y, "20: no more than that", () -> y.undo(), -3);
        Due.due("20: the others hang", y.count(1), 2);
    }
}
