import java.util.function.Supplier;
import java.util.function.ToLongFunction;

/**
 * Each way in which a call is refused: its answer, status() and count(7 .. 11) behind it, and that nothing else has
 * changed (what all hats know and where they hang, the terms, laws, what was heard, what can be undone, the images, the
 * tape, fault(), stopped(), caps(), the latest capitals).
 */
public final class RefusalTest {
    private static final int[] ODD = {Integer.MIN_VALUE, -1000000, -256, -2, 1000000, Integer.MAX_VALUE};

    public static void main(String[] args) {
        hatByMinusOne();
        hatByMinusFive();
        termsByMinusOne();
        rowByMinusSix();
        lawByMinusFive();
        lawByMinusSix();
        ordersByMinusThree();
        ordersByMinusThreeInTheirMidst();
        ordersByMinusSix();
        forceByMinusTwo();
        hangByMinusOne();
        hangByMinusTwo();
        hangByMinusThree();
        takeByMinusTwo();
        takeByMinusThree();
        thinkByMinusOne();
        thinkByMinusTwo();
        thinkByMinusThree();
        passByMinusThree();
        undoByMinusThree();
        heardByMinusOne();
        heardByMinusFive();
        capitalsByMinusOne();
        capitalsByMinusThree();
        imageByMinusOne();
        backByMinusOne();
        backByMinusTwo();
        theFirstOfTheseInThatOrder();
        whatOrdersWereRefusedByIsNotCounted();
        countsGoOnThroughImages();
        Due.end("RefusalTest");
    }

    private static void busy(String what, ToLongFunction<TruthHats> call, int reason) {
        Twins.refused(what, Halls::busy, call, reason);
    }

    /** In a bare hall, in a busy one and in a full one. */
    private static void anywhere(String what, ToLongFunction<TruthHats> call, int reason) {
        Twins.refused(what + " in a bare hall", Halls::bare, call, reason);
        Twins.refused(what + " in a busy hall", Halls::busy, call, reason);
        Twins.refused(what + " in a full hall", Halls::full, call, reason);
    }

    /** Promise 2: "-1" of hat(). */
    private static void hatByMinusOne() {
        anywhere("2: hat(-1, 0)", x -> x.hat(-1, 0), -1);
        anywhere("2: hat(4, 0)", x -> x.hat(4, 0), -1);
        anywhere("2: hat(0, -1)", x -> x.hat(0, -1), -1);
        anywhere("2: hat(3, 10)", x -> x.hat(3, 10), -1);
        for (int odd : ODD) {
            busy("2: hat(" + odd + ", 9)", x -> x.hat(odd, 9), -1);
            busy("2: hat(3, " + odd + ")", x -> x.hat(3, odd), -1);
        }
    }

    /** Promise 2: "-5" of hat(). */
    private static void hatByMinusFive() {
        Twins.refused("2: an eighth hat", Halls::full, x -> x.hat(0, 0), -5);
        Twins.refused("2: an eighth hat, the greatest", Halls::full, x -> x.hat(3, 9), -5);
    }

    /** Promise 6: "-1" of terms(). */
    private static void termsByMinusOne() {
        anywhere("6: terms(-1, 0)", x -> x.terms(-1, 0), -1);
        anywhere("6: terms(3, 0)", x -> x.terms(3, 0), -1);
        anywhere("6: terms(0, -1)", x -> x.terms(0, -1), -1);
        anywhere("6: terms(0, 1000)", x -> x.terms(0, 1000), -1);
        anywhere("6: terms(1, -1)", x -> x.terms(1, -1), -1);
        anywhere("6: terms(1, 11)", x -> x.terms(1, 11), -1);
        anywhere("6: terms(2, -1)", x -> x.terms(2, -1), -1);
        anywhere("6: terms(2, 10)", x -> x.terms(2, 10), -1);
        for (int odd : ODD) {
            busy("6: terms(" + odd + ", 1)", x -> x.terms(odd, 1), -1);
            busy("6: terms(0, " + odd + ")", x -> x.terms(0, odd), -1);
            busy("6: terms(1, " + odd + ")", x -> x.terms(1, odd), -1);
            busy("6: terms(2, " + odd + ")", x -> x.terms(2, odd), -1);
        }
    }

    private static Supplier<TruthHats> emptied(Supplier<TruthHats> maker) {
        return () -> {
            TruthHats x = maker.get();
            x.end(0);
            return x;
        };
    }

    /** Promise 9: "-6 the TAPE is empty" of row(); what can be undone and caps() stay, too. */
    private static void rowByMinusSix() {
        Twins.refused("9: row() in a bare hall", Halls::bare, x -> x.row(), -6);
        Twins.refused("9: row() in a busy hall", emptied(Halls::busy), x -> x.row(), -6);
        Twins.refused("9: row() in a full hall", emptied(Halls::full), x -> x.row(), -6);
    }

    private static Supplier<TruthHats> with(Supplier<TruthHats> maker, String text) {
        return () -> {
            TruthHats x = maker.get();
            Due.put(x, text);
            return x;
        };
    }

    /** Promise 11: "-5 (ahead of reading it; the TAPE is empty then, too)": FAULT stays that of the latest read. */
    private static void lawByMinusFive() {
        for (String text : new String[] {"tells 1", "tells", "", "   ", "?"}) {
            Twins.refusedText("11: a seventh law \"" + text + "\"", with(Halls::full, text), x -> x.law(), -5, -1, -1);
        }
        Supplier<TruthHats> faulty = () -> {
            TruthHats x = Halls.full();
            Due.orders(x, "pass pass");
            Due.put(x, "bars");
            return x;
        };
        Twins.refusedText("11: a seventh law behind a FAULT", faulty, x -> x.law(), -5, 5, -1);
    }

    /** Promise 11: "-6 (blanks alone: FAULT at the end)" of law(); stopped() stays. */
    private static void lawByMinusSix() {
        Twins.refusedText("11: law() of an empty tape", Halls::bare, x -> x.law(), -6, 0, -1);
        Twins.refusedText("11: law() of a blank", with(Halls::bare, " "), x -> x.law(), -6, 1, -1);
        Twins.refusedText("11: law() of 400 blanks", with(Halls::bare, " ".repeat(400)), x -> x.law(), -6, 400, -1);
        Twins.refusedText("11: law() in a busy hall", with(Halls::busy, "tells 1; bars 2"), x -> x.law(), -6, 14, 1);
        Twins.refusedText("11: an empty law() in a busy hall", with(Halls::busy, ""), x -> x.law(), -6, 0, 1);
        Twins.refusedText("11: orders for a law", with(Halls::busy, "pass"), x -> x.law(), -6, 0, 1);
    }

    private static void stops(Supplier<TruthHats> maker, String text, int clause) {
        Twins.refusedText("12: \"" + text + "\"", with(maker, text), x -> x.orders(), -3, -1, clause);
    }

    /** II: "One that can't be (a BROKEN SUM, as hang(), take(), think(), pass() are REFUSED) ends it". */
    private static void ordersByMinusThree() {
        String[] texts = {"hang 3 on 1 / 0", "hang 3 / 0 on 1", "take 0 % 0", "think 5 in 1 / 0", "think 5 / 0 in 1",
            "take 1000 * 1000 * 1000 + 1", "take 0 - 1000 * 1000 * 1000 - 1",
            "hang 3 on 10", "hang 3 on 0 - 1", "hang 5 on 0", "hang 0 - 1 on 0", "hang 0 on 0", "hang 3 on 4",
            "hang 0 on 4", "take 5", "take 0 - 1", "take 3", "think 8 in 0", "think 0 - 1 in 0", "think 5 in 5",
            "think 5 in 0 - 1", "think 0 in 0", "take 1000 * 1000 * 1000",
            "hang 0 - 1000 * 1000 * 1000 on 1000 * 1000 * 1000"};
        for (String text : texts) {
            stops(Halls::busy, text, 0);
        }
        stops(Halls::bare, "take 0", 0);
        stops(Halls::bare, "hang 0 on 0", 0);
        stops(Halls::bare, "think 0 in 0", 0);
        stops(Halls::full, "hang 7 on 0", 0);
        Supplier<TruthHats> late = () -> {
            TruthHats x = Halls.busy();
            x.terms(0, 999);
            x.think(3, 5);
            return x;
        };
        stops(late, "pass", 0);
        stops(late, "take 0; pass", 1);
    }

    /** II: "all is as it was ahead of it", whatever was run in it, and all that could be undone can be again. */
    private static void ordersByMinusThreeInTheirMidst() {
        stops(Halls::busy, "pass; hang 3 on 0; think 7 in 3; take 0; pass; take 0", 5);
        stops(Halls::busy, "pass times 20; pass times 20; take 9", 2);
        stops(Halls::full, "take 0; hang 0 on 9; pass times 6; take 0 times 2", 3);
        stops(Halls::full, "pass times 20", 0);
        Supplier<TruthHats> undoable = () -> {
            TruthHats x = Halls.busy();
            for (int i = 0; i < 20; i++) {
                x.pass();
            }
            x.undo();
            return x;
        };
        stops(undoable, "pass times 20; hang 3 on 0; hang 3 on 1", 2);
    }

    /** Promise 12: "-6 (as for law())" of orders(), which stopped nowhere then; none is run. */
    private static void ordersByMinusSix() {
        Twins.refusedText("12: orders() of an empty tape", Halls::bare, x -> x.orders(), -6, 0, -1);
        Twins.refusedText("12: orders() of blanks", with(Halls::bare, "   "), x -> x.orders(), -6, 3, -1);
        String[] texts = {"take 9; pass pass", "pass; pass; pass;", "take 9 9", "tells 1"};
        int[] faults = {13, 17, 7, 0};
        for (int i = 0; i < texts.length; i++) {
            String what = "12: \"" + texts[i] + "\"";
            Twins.refusedText(what, with(Halls::busy, texts[i]), x -> x.orders(), -6, faults[i], -1);
            Twins.refusedText(what, with(Halls::full, texts[i]), x -> x.orders(), -6, faults[i], -1);
        }
    }

    /** Promise 15: "-2" of force(). */
    private static void forceByMinusTwo() {
        Twins.refused("15: force(0) without laws", Halls::bare, x -> x.force(0), -2);
        busy("15: force(2) of two laws", x -> x.force(2), -2);
        busy("15: force(-2)", x -> x.force(-2), -2);
        Twins.refused("15: force(6) of six laws", Halls::full, x -> x.force(6), -2);
        for (int odd : ODD) {
            busy("15: force(" + odd + ")", x -> x.force(odd), -2);
        }
    }

    /** Promise 16: "-1 (the PEG)" of hang(). */
    private static void hangByMinusOne() {
        anywhere("16: hang(0, -1)", x -> x.hang(0, -1), -1);
        anywhere("16: hang(0, 10)", x -> x.hang(0, 10), -1);
        busy("16: hang(3, -1) of one that is off", x -> x.hang(3, -1), -1);
        busy("16: hang(3, 10) of one that is off", x -> x.hang(3, 10), -1);
        for (int odd : ODD) {
            busy("16: hang(3, " + odd + ")", x -> x.hang(3, odd), -1);
        }
    }

    /** Promise 16: "-2" of hang(). */
    private static void hangByMinusTwo() {
        Twins.refused("16: hang(0, 0) without hats", Halls::bare, x -> x.hang(0, 0), -2);
        anywhere("16: hang(-1, 9)", x -> x.hang(-1, 9), -2);
        anywhere("16: hang(7, 0)", x -> x.hang(7, 0), -2);
        busy("16: hang(5, 0)", x -> x.hang(5, 0), -2);
        for (int odd : ODD) {
            busy("16: hang(" + odd + ", 0)", x -> x.hang(odd, 0), -2);
        }
    }

    /** Promise 16: "-3" of hang(): on a PEG already, or on the PEG there is one (III: To HANG). */
    private static void hangByMinusThree() {
        busy("16: hang(0, 0) of one on a peg", x -> x.hang(0, 0), -3);
        busy("16: hang(0, 4) where it hangs", x -> x.hang(0, 4), -3);
        busy("16: hang(0, 5) of one on a peg, on another one's", x -> x.hang(0, 5), -3);
        busy("16: hang(3, 4) on another one's", x -> x.hang(3, 4), -3);
        busy("16: hang(3, 9) on another one's", x -> x.hang(3, 9), -3);
    }

    /** Promise 17: "-2" of take(). */
    private static void takeByMinusTwo() {
        Twins.refused("17: take(0) without hats", Halls::bare, x -> x.take(0), -2);
        anywhere("17: take(-1)", x -> x.take(-1), -2);
        anywhere("17: take(7)", x -> x.take(7), -2);
        busy("17: take(5)", x -> x.take(5), -2);
        for (int odd : ODD) {
            busy("17: take(" + odd + ")", x -> x.take(odd), -2);
        }
    }

    /** Promise 17: "-3" of take(): one that is OFF. */
    private static void takeByMinusThree() {
        busy("17: take(3)", x -> x.take(3), -3);
        busy("17: take(4)", x -> x.take(4), -3);
        Twins.refused("17: take(6)", Halls::full, x -> x.take(6), -3);
    }

    /** Promise 18: "-1 (the THOUGHT)" of think(). */
    private static void thinkByMinusOne() {
        anywhere("18: think(0, -1)", x -> x.think(0, -1), -1);
        anywhere("18: think(0, 8)", x -> x.think(0, 8), -1);
        for (int odd : ODD) {
            busy("18: think(0, " + odd + ")", x -> x.think(0, odd), -1);
        }
    }

    /** Promise 18: "-2" of think(). */
    private static void thinkByMinusTwo() {
        Twins.refused("18: think(0, 0) without hats", Halls::bare, x -> x.think(0, 0), -2);
        anywhere("18: think(-1, 7)", x -> x.think(-1, 7), -2);
        anywhere("18: think(7, 0)", x -> x.think(7, 0), -2);
        busy("18: think(5, 0)", x -> x.think(5, 0), -2);
        for (int odd : ODD) {
            busy("18: think(" + odd + ", 0)", x -> x.think(odd, 0), -2);
        }
    }

    /** Promise 18: "-3" of think(): one that it KNOWS. */
    private static void thinkByMinusThree() {
        busy("18: think(0, 0)", x -> x.think(0, 0), -3);
        busy("18: think(4, 0), that came with the hat", x -> x.think(4, 0), -3);
        busy("18: think(1, 0), that it was told", x -> x.think(1, 0), -3);
        Twins.refused("18: think(6, 7)", Halls::full, x -> x.think(6, 7), -3);
    }

    /** Promise 19: "-3" of pass(); III: "(at 999 it can't be)". */
    private static void passByMinusThree() {
        Supplier<TruthHats> late = () -> {
            TruthHats x = Halls.busy();
            x.terms(0, 998);
            x.take(0);
            x.pass();
            return x;
        };
        Twins.refused("19: pass() at 999", late, x -> x.pass(), -3);
        Supplier<TruthHats> empty = () -> {
            TruthHats x = Halls.bare();
            x.terms(0, 999);
            return x;
        };
        Twins.refused("19: pass() at 999 without hats", empty, x -> x.pass(), -3);
    }

    private static Supplier<TruthHats> behind(ToLongFunction<TruthHats> call) {
        return () -> {
            TruthHats x = Halls.busy();
            call.applyAsLong(x);
            return x;
        };
    }

    /** Promise 20: "-3 there is none (nothing that was ahead of a hat(), terms(), row(), back() .. can be undone)". */
    private static void undoByMinusThree() {
        Twins.refused("20: undo() in a bare hall", Halls::bare, x -> x.undo(), -3);
        Twins.refused("20: undo() behind hat()", behind(x -> x.hat(0, 0)), x -> x.undo(), -3);
        Twins.refused("20: undo() behind terms()", behind(x -> x.terms(2, 7)), x -> x.undo(), -3);
        Twins.refused("20: undo() behind row()", behind(x -> x.row()), x -> x.undo(), -3);
        Twins.refused("20: undo() behind back(0)", behind(x -> x.back(0)), x -> x.undo(), -3);
        Twins.refused("20: undo() behind back(1)", behind(x -> x.back(1)), x -> x.undo(), -3);
        Supplier<TruthHats> allUndone = () -> {
            TruthHats x = Halls.full();
            for (int i = 0; i < 16; i++) {
                Due.due("20: undo() number " + i, x.undo() >= 0 ? 1 : 0, 1);
            }
            return x;
        };
        Twins.refused("20: a 17th undo()", allUndone, x -> x.undo(), -3);
    }

    /** Promise 29: "-1 (THOUGHT 0 .. 7, is 1, 0)" of heard(). */
    private static void heardByMinusOne() {
        anywhere("29: heard(-1, 0)", x -> x.heard(-1, 0), -1);
        anywhere("29: heard(8, 1)", x -> x.heard(8, 1), -1);
        anywhere("29: heard(0, -1)", x -> x.heard(0, -1), -1);
        anywhere("29: heard(7, 2)", x -> x.heard(7, 2), -1);
        for (int odd : ODD) {
            busy("29: heard(" + odd + ", 1)", x -> x.heard(odd, 1), -1);
            busy("29: heard(1, " + odd + ")", x -> x.heard(1, odd), -1);
        }
    }

    /** Promise 29: "-5" of heard(); I: "HEARD, 6 at most". */
    private static void heardByMinusFive() {
        Twins.refused("29: a seventh, heard(7, 1)", Halls::full, x -> x.heard(7, 1), -5);
        Twins.refused("29: a seventh that was heard already", Halls::full, x -> x.heard(0, 0), -5);
    }

    /** Promise 35: "-1" of capitals(); the latest ones that were not REFUSED stay. */
    private static void capitalsByMinusOne() {
        anywhere("35: capitals(-1, 1)", x -> x.capitals(-1, 1), -1);
        anywhere("35: capitals(1000001, 60)", x -> x.capitals(1000001, 60), -1);
        anywhere("35: capitals(0, 0)", x -> x.capitals(0, 0), -1);
        anywhere("35: capitals(1000000, 61)", x -> x.capitals(1000000, 61), -1);
        for (int odd : new int[] {Integer.MIN_VALUE, -1000003, -2, 1000003, Integer.MAX_VALUE}) {
            busy("35: capitals(" + odd + ", 1)", x -> x.capitals(odd, 1), -1);
            busy("35: capitals(1, " + odd + ")", x -> x.capitals(1, odd), -1);
        }
    }

    /** Promise 35: "-3 there are no HATS" of capitals(); the latest ones stay. */
    private static void capitalsByMinusThree() {
        Twins.refused("35: capitals(0, 1) in a bare hall", Halls::bare, x -> x.capitals(0, 1), -3);
        Supplier<TruthHats> without = () -> {
            TruthHats x = Halls.bare();
            x.image(0);
            x.hat(0, 0);
            x.think(0, 4);
            x.capitals(25, 9);
            x.back(0);
            return x;
        };
        Twins.refused("35: capitals(1000000, 60) behind back() to none", without, x -> x.capitals(1000000, 60), -3);
        Due.due("36: the latest capitals stay", without.get().drawn(0, 1) >> 4 & 1, 1);
    }

    /** Promise 37: "-1" of image(). */
    private static void imageByMinusOne() {
        anywhere("37: image(-1)", x -> x.image(-1), -1);
        anywhere("37: image(2)", x -> x.image(2), -1);
        for (int odd : ODD) {
            busy("37: image(" + odd + ")", x -> x.image(odd), -1);
        }
    }

    /** Promise 38: "-1" of back(). */
    private static void backByMinusOne() {
        anywhere("38: back(-1)", x -> x.back(-1), -1);
        anywhere("38: back(2)", x -> x.back(2), -1);
        for (int odd : ODD) {
            busy("38: back(" + odd + ")", x -> x.back(odd), -1);
        }
    }

    /** Promise 38: "-2 it was not kept" of back(); what can be undone stays. */
    private static void backByMinusTwo() {
        Twins.refused("38: back(0) in a bare hall", Halls::bare, x -> x.back(0), -2);
        Twins.refused("38: back(1) in a bare hall", Halls::bare, x -> x.back(1), -2);
        Twins.refused("38: back(0) with image 1 alone", RefusalTest::withImageOne, x -> x.back(0), -2);
    }

    private static TruthHats withImageOne() {
        TruthHats x = Halls.line(3, 2, 1, 5);
        x.image(1);
        x.pass();
        x.image(2);
        return x;
    }

    /** I: "REFUSED by: -1 ..; -2 ..; -3 ..; -5 ..; -6 ... The first of these in that order." */
    private static void theFirstOfTheseInThatOrder() {
        Twins.refused("I: hat() by -1, -5", Halls::full, x -> x.hat(4, 10), -1);
        anywhere("I: hang() by -1, -2", x -> x.hang(7, 10), -1);
        busy("I: hang() by -1, -3", x -> x.hang(0, 10), -1);
        anywhere("I: think() by -1, -2", x -> x.think(-1, -1), -1);
        Twins.refused("I: heard() by -1, -5", Halls::full, x -> x.heard(8, 2), -1);
        Twins.refused("I: capitals() by -1, -3", Halls::bare, x -> x.capitals(-1, 61), -1);
        Twins.refused("I: back() by -1, -2", Halls::bare, x -> x.back(2), -1);
        Twins.refusedText("I: law() by -5, -6", with(Halls::full, ";"), x -> x.law(), -5, -1, -1);
    }

    /** Promise 39: "how many calls were REFUSED": orders() is one call, whatever in it could not be. */
    private static void whatOrdersWereRefusedByIsNotCounted() {
        TruthHats x = Halls.hats(1);
        String[] texts = {"hang 0 on 10", "hang 1 on 0", "take 0", "take 0 / 0", "think 8 in 0"};
        for (String text : texts) {
            Due.put(x, text);
            Due.refused(x, "12: orders \"" + text + "\"", () -> x.orders(), -3);
        }
        int[] due = {0, 0, texts.length, 0, 0};
        for (int i = 0; i < due.length; i++) {
            Due.due("39: count(" + (7 + i) + ") behind orders that can't be", x.count(7 + i), due[i]);
        }
    }

    /** Promise 39: "(IMAGES do not keep that)". */
    private static void countsGoOnThroughImages() {
        TruthHats x = new TruthHats();
        x.image(0);
        x.hat(9, 0);
        x.take(0);
        x.undo();
        x.row();
        x.image(1);
        for (int i = 0; i < 7; i++) {
            x.hat(0, 0);
        }
        x.hat(0, 0);
        for (int k = 0; k < 2; k++) {
            Due.due("38: back(" + k + ")", x.back(k), 0);
            for (int i = 7; i <= 11; i++) {
                Due.due("39: count(" + i + ") behind back()", x.count(i), 1);
            }
        }
    }
}
