import java.util.function.Supplier;
import java.util.function.ToLongFunction;

/**
 * The calls that are no refusals, but answer NONE: each way in which they do, on both sides of what can be; and that
 * neither status() nor count(7 .. 11) nor anything else has changed then, nor behind an answer.
 */
public final class NoneTest {
    private static final int[] ODD = {Integer.MIN_VALUE, -1000, -2, 100, 1000, Integer.MAX_VALUE};

    public static void main(String[] args) {
        of();
        two();
        on();
        feed();
        end();
        later();
        learns();
        pegFor();
        cut();
        quiet();
        groups();
        talkative();
        ask();
        few();
        compare();
        drawn();
        count();
        questionsLeaveAll();
        Due.end("NoneTest");
    }

    private static void none(String what, ToLongFunction<TruthHats> call) {
        Twins.leavesAll(what, Halls::busy, call, TruthHats.NONE);
    }

    /** In a bare hall, in a busy one (five hats) and in a full one. */
    private static void anywhere(String what, ToLongFunction<TruthHats> call) {
        Twins.leavesAll(what + " in a bare hall", Halls::bare, call, TruthHats.NONE);
        none(what, call);
        Twins.leavesAll(what + " in a full hall", Halls::full, call, TruthHats.NONE);
    }

    /** Promise 3: "NONE" of of(). */
    private static void of() {
        anywhere("3: of(-1, 0)", x -> x.of(-1, 0));
        anywhere("3: of(7, 4)", x -> x.of(7, 4));
        anywhere("3: of(0, -1)", x -> x.of(0, -1));
        anywhere("3: of(0, 5)", x -> x.of(0, 5));
        none("3: of(5, 3) of five hats", x -> x.of(5, 3));
        for (int odd : ODD) {
            none("3: of(" + odd + ", 1)", x -> x.of(odd, 1));
            none("3: of(1, " + odd + ")", x -> x.of(1, odd));
        }
    }

    /** Promise 4: "NONE (one alone; others)" of two(). */
    private static void two() {
        for (int i = 0; i < 7; i++) {
            int hat = i;
            anywhere("4: one alone, two(" + i + ", " + i + ", 0)", x -> x.two(hat, hat, 0));
        }
        anywhere("4: two(0, 1, -1)", x -> x.two(0, 1, -1));
        anywhere("4: two(0, 1, 9)", x -> x.two(0, 1, 9));
        anywhere("4: two(-1, 1, 0)", x -> x.two(-1, 1, 0));
        anywhere("4: two(7, 1, 8)", x -> x.two(7, 1, 8));
        anywhere("4: two(1, -1, 0)", x -> x.two(1, -1, 0));
        anywhere("4: two(1, 7, 8)", x -> x.two(1, 7, 8));
        none("4: two(5, 4, 1) of five hats", x -> x.two(5, 4, 1));
        none("4: two(4, 5, 1) of five hats", x -> x.two(4, 5, 1));
        for (int odd : ODD) {
            none("4: two(" + odd + ", 1, 0)", x -> x.two(odd, 1, 0));
            none("4: two(1, " + odd + ", 1)", x -> x.two(1, odd, 1));
            none("4: two(1, 0, " + odd + ")", x -> x.two(1, 0, odd));
        }
    }

    /** Promise 5: "NONE" of on(). */
    private static void on() {
        anywhere("5: on(-1)", x -> x.on(-1));
        anywhere("5: on(10)", x -> x.on(10));
        none("5: on(8), on which there is none", x -> x.on(8));
        for (int odd : ODD) {
            none("5: on(" + odd + ")", x -> x.on(odd));
        }
    }

    /** Promise 7: "NONE, if there would be more than 400": nothing comes behind the TAPE then. */
    private static void feed() {
        for (int n = 381; n <= 400; n++) {
            int length = n;
            Supplier<TruthHats> nearlyFull = () -> {
                TruthHats x = Halls.full();
                x.end(length);
                return x;
            };
            Twins.leavesAll("7: feed() behind " + n, nearlyFull, x -> x.feed(1, 2, 3, 4, 5), TruthHats.NONE);
        }
    }

    /** Promise 8: "NONE, if it has not so many, or n is below 0": the TAPE stays. */
    private static void end() {
        anywhere("8: end(-1)", x -> x.end(-1));
        anywhere("8: end(401)", x -> x.end(401));
        Twins.leavesAll("8: end(1) of none", Halls::bare, x -> x.end(1), TruthHats.NONE);
        none("8: end(5) of four", x -> x.end(5));
        for (int odd : ODD) {
            none("8: end(" + odd + ")", x -> x.end(odd));
        }
    }

    /** Promise 21: "NONE (no such HAT; others)" of later(), n 0 .. 60. */
    private static void later() {
        anywhere("21: later(-1, 0)", x -> x.later(-1, 0));
        anywhere("21: later(7, 60)", x -> x.later(7, 60));
        anywhere("21: later(0, -1)", x -> x.later(0, -1));
        anywhere("21: later(0, 61)", x -> x.later(0, 61));
        none("21: later(5, 1) of five hats", x -> x.later(5, 1));
        for (int odd : ODD) {
            none("21: later(" + odd + ", 1)", x -> x.later(odd, 1));
            none("21: later(1, " + odd + ")", x -> x.later(1, odd));
        }
    }

    /** Promise 22: "NONE (not in 60; no such HAT, THOUGHT)" of learns(). */
    private static void learns() {
        anywhere("22: learns(-1, 0)", x -> x.learns(-1, 0));
        anywhere("22: learns(7, 0)", x -> x.learns(7, 0));
        anywhere("22: learns(0, -1)", x -> x.learns(0, -1));
        anywhere("22: learns(0, 8)", x -> x.learns(0, 8));
        none("22: learns(5, 0) of five hats", x -> x.learns(5, 0));
        none("22: learns(3, 0) of one that is off", x -> x.learns(3, 0));
        for (int odd : ODD) {
            none("22: learns(" + odd + ", 1)", x -> x.learns(odd, 1));
            none("22: learns(1, " + odd + ")", x -> x.learns(1, odd));
        }
    }

    /** Promise 24: "n 1 .. 60. NONE (there is none; HAT and OTHER are one; others)" of pegFor(). */
    private static void pegFor() {
        anywhere("24: pegFor(-1, 0, 1, 1)", x -> x.pegFor(-1, 0, 1, 1));
        anywhere("24: pegFor(7, 0, 1, 60)", x -> x.pegFor(7, 0, 1, 60));
        anywhere("24: pegFor(0, -1, 1, 1)", x -> x.pegFor(0, -1, 1, 1));
        anywhere("24: pegFor(0, 8, 1, 1)", x -> x.pegFor(0, 8, 1, 1));
        anywhere("24: pegFor(0, 0, -1, 1)", x -> x.pegFor(0, 0, -1, 1));
        anywhere("24: pegFor(0, 0, 7, 60)", x -> x.pegFor(0, 0, 7, 60));
        anywhere("24: pegFor(0, 0, 1, 0)", x -> x.pegFor(0, 0, 1, 0));
        anywhere("24: pegFor(0, 0, 1, 61)", x -> x.pegFor(0, 0, 1, 61));
        anywhere("24: HAT and OTHER are one, pegFor(0, 0, 0, 1)", x -> x.pegFor(0, 0, 0, 1));
        anywhere("24: HAT and OTHER are one, pegFor(4, 7, 4, 60)", x -> x.pegFor(4, 7, 4, 60));
        none("24: pegFor(5, 0, 1, 9) of five hats", x -> x.pegFor(5, 0, 1, 9));
        none("24: pegFor(0, 0, 5, 9) of five hats", x -> x.pegFor(0, 0, 5, 9));
        none("24: there is none, pegFor(0, 1, 1, 60)", x -> x.pegFor(0, 1, 1, 60));
        for (int odd : ODD) {
            none("24: pegFor(" + odd + ", 0, 1, 1)", x -> x.pegFor(odd, 0, 1, 1));
            none("24: pegFor(0, " + odd + ", 1, 1)", x -> x.pegFor(0, odd, 1, 1));
            none("24: pegFor(0, 0, " + odd + ", 1)", x -> x.pegFor(0, 0, odd, 1));
            none("24: pegFor(0, 0, 1, " + odd + ")", x -> x.pegFor(0, 0, 1, odd));
        }
    }

    /** Promise 25: "NONE (it KNOWS it; no such HAT, THOUGHT; others)" of cut(). */
    private static void cut() {
        anywhere("25: cut(-1, 1, 0)", x -> x.cut(-1, 1, 0));
        anywhere("25: cut(7, 1, 1)", x -> x.cut(7, 1, 1));
        anywhere("25: cut(0, -1, 0)", x -> x.cut(0, -1, 0));
        anywhere("25: cut(0, 8, 1)", x -> x.cut(0, 8, 1));
        anywhere("25: cut(0, 1, -1)", x -> x.cut(0, 1, -1));
        anywhere("25: cut(0, 1, 2)", x -> x.cut(0, 1, 2));
        none("25: it knows it, how many", x -> x.cut(0, 0, 0));
        none("25: it knows it, who", x -> x.cut(0, 0, 1));
        none("25: cut(5, 1, 0) of five hats", x -> x.cut(5, 1, 0));
        for (int odd : ODD) {
            none("25: cut(" + odd + ", 1, 0)", x -> x.cut(odd, 1, 0));
            none("25: cut(0, " + odd + ", 0)", x -> x.cut(0, odd, 0));
            none("25: cut(0, 1, " + odd + ")", x -> x.cut(0, 1, odd));
        }
    }

    /** Promise 26: "NONE (more than 3 are OFF; too few PEGS; not so many; others)" of quiet(), n 1 .. 12. */
    private static void quiet() {
        anywhere("26: quiet(0, -1)", x -> x.quiet(0, -1));
        anywhere("26: quiet(13, -1)", x -> x.quiet(13, -1));
        anywhere("26: quiet(1, -2)", x -> x.quiet(1, -2));
        anywhere("26: quiet(12, 3)", x -> x.quiet(12, 3));
        Twins.leavesAll("26: not so many, quiet(1, 0) of none", Halls::bare, x -> x.quiet(1, 0), TruthHats.NONE);
        none("26: not so many, quiet(1, 2) of two", x -> x.quiet(1, 2));
        Twins.leavesAll("26: not so many, quiet(12, 1) of one", Halls::full, x -> x.quiet(12, 1), TruthHats.NONE);
        for (int n = 4; n <= 7; n++) {
            int off = n;
            Twins.leavesAll("26: " + n + " are off", () -> Halls.hats(off), x -> x.quiet(1, -1), TruthHats.NONE);
            Twins.leavesAll("26: " + n + " are off, a peg", () -> Halls.hats(off), x -> x.quiet(12, 0), TruthHats.NONE);
        }
        for (int odd : ODD) {
            none("26: quiet(" + odd + ", -1)", x -> x.quiet(odd, -1));
            none("26: quiet(1, " + odd + ")", x -> x.quiet(1, odd));
        }
    }

    /** Promise 27: "NONE (others)" of groups(). */
    private static void groups() {
        anywhere("27: groups(-2)", x -> x.groups(-2));
        anywhere("27: groups(7)", x -> x.groups(7));
        Twins.leavesAll("27: groups(0) without hats", Halls::bare, x -> x.groups(0), TruthHats.NONE);
        none("27: groups(5) of five hats", x -> x.groups(5));
        for (int odd : ODD) {
            none("27: groups(" + odd + ")", x -> x.groups(odd));
        }
    }

    /** Promise 28: "NONE (no HATS; others)" of talkative(). */
    private static void talkative() {
        Twins.leavesAll("28: no hats, which", Halls::bare, x -> x.talkative(0), TruthHats.NONE);
        Twins.leavesAll("28: no hats, how many", Halls::bare, x -> x.talkative(1), TruthHats.NONE);
        anywhere("28: talkative(-1)", x -> x.talkative(-1));
        anywhere("28: talkative(2)", x -> x.talkative(2));
        for (int odd : ODD) {
            none("28: talkative(" + odd + ")", x -> x.talkative(odd));
        }
    }

    /** Promise 32: "NONE (it can be none)" of ask(). */
    private static void ask() {
        Twins.leavesAll("32: no hats, which", Halls::bare, x -> x.ask(0), TruthHats.NONE);
        Twins.leavesAll("32: no hats, how many", Halls::bare, x -> x.ask(1), TruthHats.NONE);
        Supplier<TruthHats> noneCanBe = () -> {
            TruthHats x = Halls.busy();
            x.heard(3, 1);
            return x;
        };
        Twins.leavesAll("32: it can be none, which", noneCanBe, x -> x.ask(0), TruthHats.NONE);
        Twins.leavesAll("32: it can be none, how many", noneCanBe, x -> x.ask(1), TruthHats.NONE);
        anywhere("32: ask(-1)", x -> x.ask(-1));
        anywhere("32: ask(2)", x -> x.ask(2));
        for (int odd : ODD) {
            none("32: ask(" + odd + ")", x -> x.ask(odd));
        }
    }

    /** Promise 33: "k 1 .. 20, n 0 .. 99. NONE." of few(). */
    private static void few() {
        anywhere("33: few(0, 0)", x -> x.few(0, 0));
        anywhere("33: few(21, 99)", x -> x.few(21, 99));
        anywhere("33: few(1, -1)", x -> x.few(1, -1));
        anywhere("33: few(20, 100)", x -> x.few(20, 100));
        for (int odd : ODD) {
            none("33: few(" + odd + ", 1)", x -> x.few(odd, 1));
            none("33: few(1, " + odd + ")", x -> x.few(1, odd));
        }
    }

    /** Promise 34: "NONE (no such LAW; as for two())" of compare(). */
    private static void compare() {
        Supplier<TruthHats> withoutLaws = () -> Halls.hats(2);
        Twins.leavesAll("34: compare(0, 0, 1) without laws", withoutLaws, x -> x.compare(0, 0, 1), TruthHats.NONE);
        Twins.leavesAll("34: compare(-1, 0, 1) without hats", Halls::bare, x -> x.compare(-1, 0, 1), TruthHats.NONE);
        anywhere("34: compare(-2, 0, 1)", x -> x.compare(-2, 0, 1));
        anywhere("34: compare(6, 0, 1)", x -> x.compare(6, 0, 1));
        anywhere("34: compare(-1, -1, 1)", x -> x.compare(-1, -1, 1));
        anywhere("34: compare(-1, 7, 1)", x -> x.compare(-1, 7, 1));
        anywhere("34: compare(0, 1, -1)", x -> x.compare(0, 1, -1));
        anywhere("34: compare(0, 1, 7)", x -> x.compare(0, 1, 7));
        anywhere("34: one alone, compare(-1, 3, 3)", x -> x.compare(-1, 3, 3));
        anywhere("34: one alone, compare(0, 0, 0)", x -> x.compare(0, 0, 0));
        none("34: compare(2, 0, 1) of two laws", x -> x.compare(2, 0, 1));
        none("34: compare(1, 5, 1) of five hats", x -> x.compare(1, 5, 1));
        none("34: compare(1, 1, 5) of five hats", x -> x.compare(1, 1, 5));
        for (int odd : ODD) {
            none("34: compare(" + odd + ", 0, 1)", x -> x.compare(odd, 0, 1));
            none("34: compare(0, " + odd + ", 1)", x -> x.compare(0, odd, 1));
            none("34: compare(0, 1, " + odd + ")", x -> x.compare(0, 1, odd));
        }
    }

    /** Promise 36: "NONE" of drawn(): ahead of any CAPITALS, of no such HAT, for another what. */
    private static void drawn() {
        Supplier<TruthHats> aheadOfAny = () -> {
            TruthHats x = Halls.line(3, 0, 1);
            x.capitals(0, 0);
            return x;
        };
        Twins.leavesAll("36: ahead of any, drawn(0, 0)", aheadOfAny, x -> x.drawn(0, 0), TruthHats.NONE);
        Twins.leavesAll("36: ahead of any, drawn(0, 1)", aheadOfAny, x -> x.drawn(0, 1), TruthHats.NONE);
        anywhere("36: drawn(-1, 0)", x -> x.drawn(-1, 0));
        anywhere("36: drawn(7, 1)", x -> x.drawn(7, 1));
        anywhere("36: drawn(0, -1)", x -> x.drawn(0, -1));
        anywhere("36: drawn(0, 2)", x -> x.drawn(0, 2));
        none("36: drawn(4, 1) of the four hats that there were then", x -> x.drawn(4, 1));
        for (int odd : ODD) {
            none("36: drawn(" + odd + ", 0)", x -> x.drawn(odd, 0));
            none("36: drawn(0, " + odd + ")", x -> x.drawn(0, odd));
        }
    }

    /** Promise 39: "NONE for others" of count(). */
    private static void count() {
        anywhere("39: count(-1)", x -> x.count(-1));
        anywhere("39: count(16)", x -> x.count(16));
        for (int odd : ODD) {
            none("39: count(" + odd + ")", x -> x.count(odd));
        }
    }

    private static void asks(String what, ToLongFunction<TruthHats> call) {
        Twins.leavesAll(what, Halls::busy, call, call.applyAsLong(Halls.busy()));
    }

    /** "from now on", "on paper", "in place of": what is asked changes nothing, whatever it tells. */
    private static void questionsLeaveAll() {
        asks("4: two(0, 1, 0)", x -> x.two(0, 1, 0));
        asks("8: end(4) of four", x -> x.end(4));
        asks("21: later(1, 60)", x -> x.later(1, 60));
        asks("22: learns(1, 3)", x -> x.learns(1, 3));
        asks("23: still()", x -> x.still());
        asks("24: pegFor(0, 0, 2, 60)", x -> x.pegFor(0, 0, 2, 60));
        asks("25: cut(1, 3, 1)", x -> x.cut(1, 3, 1));
        asks("26: quiet(12, -1)", x -> x.quiet(12, -1));
        asks("26: quiet(12, 1)", x -> x.quiet(12, 1));
        asks("27: groups(-1)", x -> x.groups(-1));
        asks("28: talkative(1)", x -> x.talkative(1));
        asks("31: canBe()", x -> x.canBe());
        asks("32: ask(1)", x -> x.ask(1));
        asks("33: few(20, 99)", x -> x.few(20, 99));
        asks("34: compare(0, 0, 1)", x -> x.compare(0, 0, 1));
        asks("36: drawn(0, 1)", x -> x.drawn(0, 1));
    }
}
