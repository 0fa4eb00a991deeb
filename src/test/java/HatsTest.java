/** Promises 1 to 6 and 16 to 20: hats, pegs, terms, what is done by day and undone. */
public final class HatsTest {
    public static void main(String[] args) {
        newObject();
        hat();
        of();
        two();
        on();
        terms();
        hang();
        take();
        think();
        pass();
        passTellsAsItWasAhead();
        undo();
        undoOfAllHats();
        pegsThatWereLeft();
        undoKeepsSixteen();
        whatEndsUndo();
        Due.end("HatsTest");
    }

    private static void newObject() {
        TruthHats x = new TruthHats();
        int[] counts = {0, 0, 0, 0, 0, 0, 0, 0, 0, 0, 0, 0, -1, 0, 1, 0};
        for (int i = 0; i < counts.length; i++) {
            Due.due("1: count(" + i + ") of a new object", x.count(i), counts[i]);
        }
        Due.due("1: status()", x.status(), 0);
        Due.due("1: fault()", x.fault(), -1);
        Due.due("1: stopped()", x.stopped(), -1);
        Due.due("1: caps()", x.caps(), 0);
        Due.due("1: canBe()", x.canBe(), 0);
        Due.due("1: groups(-1)", x.groups(-1), 0);
        Due.due("1: drawn(0, 0)", x.drawn(0, 0), -1);
        for (int peg = 0; peg < 10; peg++) {
            Due.due("1: on(" + peg + ")", x.on(peg), -1);
        }
        Due.refused(x, "1: back(0)", () -> x.back(0), -2);
        Due.refused(x, "1: undo()", () -> x.undo(), -3);
    }

    private static void hat() {
        TruthHats x = new TruthHats();
        Due.refused(x, "2: hat(-1, 0)", () -> x.hat(-1, 0), -1);
        Due.refused(x, "2: hat(4, 0)", () -> x.hat(4, 0), -1);
        Due.refused(x, "2: hat(0, -1)", () -> x.hat(0, -1), -1);
        Due.refused(x, "2: hat(0, 10)", () -> x.hat(0, 10), -1);
        for (int i = 0; i < 7; i++) {
            int number = i;
            Due.fine(x, "2: hat number " + i, () -> x.hat(number % 4, 9 - number), i);
            Due.due("2: its kind", x.of(i, 0), i % 4);
            Due.due("2: it is tall", x.of(i, 1), 9 - i);
            Due.due("2: it is off", x.of(i, 2), -1);
            Due.due("2: it knows nothing", x.of(i, 3), 0);
        }
        Due.refused(x, "2: an eighth hat", () -> x.hat(0, 0), -5);
        Due.refused(x, "2: an eighth hat that can't be", () -> x.hat(4, 0), -1);
        Due.due("2: count(0)", x.count(0), 7);
    }

    private static void of() {
        TruthHats x = new TruthHats();
        x.hat(3, 9);
        x.hat(1, 2);
        x.hang(0, 9);
        x.think(0, 7);
        x.think(0, 0);
        int[] due = {3, 9, 9, 129, 2};
        for (int what = 0; what < 5; what++) {
            Due.due("3: of(0, " + what + ")", x.of(0, what), due[what]);
        }
        Due.due("3: of(1, 4)", x.of(1, 4), 0);
        Due.due("3: of(0, 5)", x.of(0, 5), -1);
        Due.due("3: of(0, -1)", x.of(0, -1), -1);
        Due.due("3: of(2, 0)", x.of(2, 0), -1);
        Due.due("3: of(-1, 0)", x.of(-1, 0), -1);
        Due.law(x, "weighs 40 + thought if thought > 3; weighs knows * 10 if not thought > 3");
        x.force(0);
        Due.due("3: the worth of what weighs 47 and 20", x.of(0, 4), 67);
    }

    private static void two() {
        TruthHats x = new TruthHats();
        x.hat(0, 0);
        x.hat(1, 0);
        Due.due("4: one thought without a law", x.two(0, 1, 0), 1);
        for (int thought = 0; thought < 8; thought++) {
            Due.due("4: barred without a law", x.two(0, 1, 1 + thought), 0);
        }
        Due.due("4: one alone", x.two(1, 1, 0), -1);
        Due.due("4: two(0, 1, 9)", x.two(0, 1, 9), -1);
        Due.due("4: two(0, 1, -1)", x.two(0, 1, -1), -1);
        Due.due("4: two(0, 2, 0)", x.two(0, 2, 0), -1);
        Due.due("4: two(2, 0, 0)", x.two(2, 0, 0), -1);
        Due.due("4: two(-1, 0, 0)", x.two(-1, 0, 0), -1);
        Due.law(x, "tells 5 + other - hat; bars if thought = 6 and hat = 1");
        x.force(0);
        Due.due("4: two(0, 1, 0)", x.two(0, 1, 0), 6);
        Due.due("4: two(1, 0, 0)", x.two(1, 0, 0), 4);
        Due.due("4: two(1, 0, 7)", x.two(1, 0, 7), 1);
        Due.due("4: two(1, 0, 8)", x.two(1, 0, 8), 0);
        Due.due("4: two(0, 1, 7)", x.two(0, 1, 7), 0);
        Due.due("4: status() is not two's", x.status(), 0);
    }

    private static void on() {
        TruthHats x = new TruthHats();
        x.hat(0, 0);
        x.hat(0, 0);
        x.hang(1, 0);
        x.hang(0, 9);
        Due.due("5: on(0)", x.on(0), 1);
        Due.due("5: on(9)", x.on(9), 0);
        Due.due("5: on(1)", x.on(1), -1);
        Due.due("5: on(-1)", x.on(-1), -1);
        Due.due("5: on(10)", x.on(10), -1);
        x.take(1);
        Due.due("5: on(0) then", x.on(0), -1);
        Due.due("5: on(-1) then", x.on(-1), -1);
    }

    private static void terms() {
        TruthHats x = new TruthHats();
        Due.fine(x, "6: terms(0, 999)", () -> x.terms(0, 999), 0);
        Due.fine(x, "6: terms(0, 5)", () -> x.terms(0, 5), 999);
        Due.fine(x, "6: terms(1, 10)", () -> x.terms(1, 10), 1);
        Due.fine(x, "6: terms(1, 0)", () -> x.terms(1, 0), 10);
        Due.fine(x, "6: terms(2, 9)", () -> x.terms(2, 9), 0);
        Due.refused(x, "6: terms(0, 1000)", () -> x.terms(0, 1000), -1);
        Due.refused(x, "6: terms(0, -1)", () -> x.terms(0, -1), -1);
        Due.refused(x, "6: terms(1, 11)", () -> x.terms(1, 11), -1);
        Due.refused(x, "6: terms(2, 10)", () -> x.terms(2, 10), -1);
        Due.refused(x, "6: terms(3, 0)", () -> x.terms(3, 0), -1);
        Due.refused(x, "6: terms(-1, 0)", () -> x.terms(-1, 0), -1);
        Due.due("6: HOUR", x.count(13), 5);
        Due.due("6: LEAKS", x.count(14), 0);
        Due.due("6: RAIN", x.count(15), 9);
    }

    private static void hang() {
        TruthHats x = new TruthHats();
        for (int i = 0; i < 4; i++) {
            x.hat(0, 0);
        }
        Due.fine(x, "16: hang(0, 0)", () -> x.hang(0, 0), 0);
        Due.fine(x, "16: hang(1, 2)", () -> x.hang(1, 2), 0);
        Due.fine(x, "16: hang(2, 1)", () -> x.hang(2, 1), 2);
        Due.fine(x, "16: hang(3, 3)", () -> x.hang(3, 3), 1);
        Due.refused(x, "16: hang(0, 5)", () -> x.hang(0, 5), -3);
        Due.refused(x, "16: hang(4, 5)", () -> x.hang(4, 5), -2);
        Due.refused(x, "16: hang(-1, 5)", () -> x.hang(-1, 5), -2);
        Due.refused(x, "16: hang(4, 10)", () -> x.hang(4, 10), -1);
        Due.refused(x, "16: hang(0, -1)", () -> x.hang(0, -1), -1);
        x.take(3);
        Due.refused(x, "16: onto one that is taken", () -> x.hang(3, 2), -3);
        Due.fine(x, "16: hang(3, 9)", () -> x.hang(3, 9), 0);
        Due.due("16: count(1)", x.count(1), 4);
    }

    private static void take() {
        TruthHats x = new TruthHats();
        x.hat(0, 0);
        Due.refused(x, "17: take(0) that is off", () -> x.take(0), -3);
        Due.refused(x, "17: take(1)", () -> x.take(1), -2);
        Due.refused(x, "17: take(-1)", () -> x.take(-1), -2);
        x.hang(0, 0);
        Due.fine(x, "17: take(0) from 0", () -> x.take(0), 0);
        x.hang(0, 7);
        Due.fine(x, "17: take(0) from 7", () -> x.take(0), 7);
        Due.due("17: of(0, 2)", x.of(0, 2), -1);
        Due.due("17: count(1)", x.count(1), 0);
    }

    private static void think() {
        TruthHats x = new TruthHats();
        x.hat(0, 0);
        for (int thought = 7; thought >= 0; thought--) {
            int number = thought;
            Due.fine(x, "18: think(0, " + thought + ")", () -> x.think(0, number), 8 - thought);
        }
        Due.refused(x, "18: think(0, 3) again", () -> x.think(0, 3), -3);
        Due.refused(x, "18: think(0, 8)", () -> x.think(0, 8), -1);
        Due.refused(x, "18: think(0, -1)", () -> x.think(0, -1), -1);
        Due.refused(x, "18: think(1, 8)", () -> x.think(1, 8), -1);
        Due.refused(x, "18: think(1, 0)", () -> x.think(1, 0), -2);
        Due.due("18: of(0, 3)", x.of(0, 3), 255);
    }

    private static void pass() {
        TruthHats x = new TruthHats();
        Due.fine(x, "19: pass() in a bare hall", () -> x.pass(), 0);
        Due.due("19: HOUR", x.count(13), 1);
        for (int i = 0; i < 3; i++) {
            x.hat(0, 0);
            x.hang(i, i);
        }
        x.think(0, 4);
        x.think(0, 6);
        x.think(2, 4);
        Due.fine(x, "19: one told from both sides counts once", () -> x.pass(), 1);
        Due.due("19: of(1, 3)", x.of(1, 3), 16);
        Due.fine(x, "19: pass()", () -> x.pass(), 1);
        Due.due("19: of(1, 3) then", x.of(1, 3), 80);
        x.terms(0, 998);
        Due.fine(x, "19: pass() at 998", () -> x.pass(), 1);
        Due.due("19: of(2, 3)", x.of(2, 3), 80);
        Due.refused(x, "19: pass() at 999", () -> x.pass(), -3);
        Due.due("19: HOUR stays", x.count(13), 999);
    }

    private static void passTellsAsItWasAhead() {
        TruthHats x = new TruthHats();
        for (int i = 0; i < 4; i++) {
            x.hat(i, 0);
            x.hang(i, 3 - i);
        }
        Due.law(x, "tells 2; bars if thought = 0 and like = 1; tells 3 if hour > 0; bars if knows > 3");
        x.force(0);
        for (int thought = 0; thought < 4; thought++) {
            x.think(0, thought);
        }
        Due.due("19: one that knows more than three is barred", x.pass(), 0);
        x.undo();
        x.undo();
        Due.due("19: two in the first hour, without the barred one", x.pass(), 2);
        Due.due("19: of(1, 3)", x.of(1, 3), 6);
        Due.due("19: of(2, 3) is told of it an hour later", x.of(2, 3), 0);
        Due.due("19: in the second hour", x.pass(), 2);
        Due.due("19: of(2, 3)", x.of(2, 3), 6);
        Due.due("19: of(1, 3) never learns the barred one", x.of(1, 3), 6);
    }

    private static void undo() {
        TruthHats x = new TruthHats();
        x.hat(0, 0);
        x.hat(0, 0);
        x.hang(0, 4);
        x.hang(1, 5);
        x.think(0, 1);
        x.pass();
        x.take(0);
        Due.due("20: count(5)", x.count(5), 5);
        Due.fine(x, "20: undo() of take", () -> x.undo(), 1);
        Due.due("20: it hangs again", x.on(4), 0);
        Due.fine(x, "20: undo() of pass", () -> x.undo(), 3);
        Due.due("20: the hour is back", x.count(13), 0);
        Due.due("20: what was told is not known", x.of(1, 3), 0);
        Due.fine(x, "20: undo() of think", () -> x.undo(), 2);
        Due.due("20: what was thought is not known", x.of(0, 3), 0);
        Due.fine(x, "20: undo() of hang", () -> x.undo(), 0);
        Due.due("20: it is off", x.of(1, 2), -1);
        Due.fine(x, "20: undo() of the first hang", () -> x.undo(), 0);
        Due.refused(x, "20: undo() with nothing left", () -> x.undo(), -3);
    }

    private static void undoOfAllHats() {
        TruthHats x = new TruthHats();
        for (int i = 0; i < 7; i++) {
            x.hat(0, 0);
            x.think(i, i);
            x.hang(i, 9 - i);
        }
        x.pass();
        x.pass();
        x.undo();
        x.undo();
        for (int i = 0; i < 7; i++) {
            Due.due("20: of(" + i + ", 2)", x.of(i, 2), 9 - i);
            Due.due("20: of(" + i + ", 3)", x.of(i, 3), 1 << i);
        }
    }

    private static void pegsThatWereLeft() {
        TruthHats x = new TruthHats();
        x.hat(0, 0);
        x.hat(0, 0);
        x.hang(0, 0);
        x.hang(1, 1);
        x.pass();
        x.take(0);
        x.think(0, 0);
        Due.due("19: from a peg that was left nothing is told", x.pass(), 0);
        Due.due("19: of(1, 3)", x.of(1, 3), 0);
    }

    private static void undoKeepsSixteen() {
        TruthHats x = new TruthHats();
        x.hat(0, 0);
        x.hang(0, 0);
        x.think(0, 0);
        for (int i = 0; i < 16; i++) {
            x.pass();
        }
        Due.due("20: count(5) of 18", x.count(5), 16);
        for (int i = 0; i < 16; i++) {
            Due.fine(x, "20: undo() number " + i, () -> x.undo(), 3);
            Due.due("20: hour", x.count(13), 15 - i);
        }
        Due.refused(x, "20: the 17th", () -> x.undo(), -3);
        Due.due("20: the hang stays", x.of(0, 2), 0);
    }

    private static void whatEndsUndo() {
        TruthHats x = new TruthHats();
        x.hat(0, 0);
        x.think(0, 0);
        x.hat(4, 4);
        x.terms(9, 9);
        x.row();
        x.back(0);
        Due.law(x, "bars");
        Due.law(x, "bar");
        Due.orders(x, "take 0");
        x.force(0);
        x.force(-1);
        x.heard(0, 0);
        x.forget();
        x.image(0);
        x.capitals(1, 1);
        Due.due("20: refused calls and others leave it", x.count(5), 1);
        x.hat(1, 1);
        Due.due("20: count(5) behind hat()", x.count(5), 0);
        x.pass();
        x.terms(0, 0);
        Due.due("20: count(5) behind terms()", x.count(5), 0);
        x.pass();
        Due.putBytes(x, new byte[] {9});
        x.row();
        Due.due("20: count(5) behind row() of a cap", x.count(5), 0);
        x.pass();
        x.back(0);
        Due.due("20: count(5) behind back()", x.count(5), 0);
        Due.refused(x, "20: undo() behind back()", () -> x.undo(), -3);
    }
}
