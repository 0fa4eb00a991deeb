import java.util.ArrayList;
import java.util.List;
import java.util.function.Function;
import java.util.function.Supplier;
import java.util.function.ToLongFunction;

/**
 * Two objects that were made alike, one of which is asked something more: whatever both tell then is to be the same.
 * Each look is taken at new objects, so that none is used for more than 512 calls.
 */
final class Twins {
    private final String what;
    private final Supplier<TruthHats> maker;
    private final ToLongFunction<TruthHats> call;
    private final boolean isText;

    private Twins(String what, Supplier<TruthHats> maker, ToLongFunction<TruthHats> call, boolean isText) {
        this.what = what;
        this.maker = maker;
        this.call = call;
        this.isText = isText;
    }

    /** A call that is refused, behind which nothing but status() and count(7 .. 11) has changed. */
    static void refused(String what, Supplier<TruthHats> maker, ToLongFunction<TruthHats> call, int reason) {
        TruthHats x = maker.get();
        Due.refused(x, what, () -> (int) call.applyAsLong(x), reason);
        new Twins(what, maker, call, false).look();
    }

    /** A law() or orders() that is refused: the tape is empty, too, and fault() and stopped() tell these. */
    static void refusedText(String what, Supplier<TruthHats> maker, ToLongFunction<TruthHats> call, int reason,
            int fault, int stopped) {
        TruthHats x = maker.get();
        Due.refused(x, what, () -> (int) call.applyAsLong(x), reason);
        Due.due("fault() behind " + what, x.fault(), fault);
        Due.due("stopped() behind " + what, x.stopped(), stopped);
        Due.due("count(6) behind " + what, x.count(6), 0);
        new Twins(what, maker, call, true).look();
    }

    /** A call that is not one of the fifteen that are REFUSED: its answer, and nothing at all has changed. */
    static void leavesAll(String what, Supplier<TruthHats> maker, ToLongFunction<TruthHats> call, long answer) {
        Due.due(what, call.applyAsLong(maker.get()), answer);
        Twins twins = new Twins(what, maker, call, false);
        twins.same(Twins::refusals);
        twins.look();
    }

    private void look() {
        same(Twins::hall);
        same(Twins::questions);
        same(Twins::undone);
        same(x -> behindBack(x, 0));
        same(x -> behindBack(x, 1));
        same(Twins::tapeAsRow);
        same(Twins::tapeAsLaw);
        if (!isText) {
            same(x -> List.of("fault() = " + x.fault(), "stopped() = " + x.stopped()));
        }
    }

    private void same(Function<TruthHats, List<String>> look) {
        TruthHats asked = maker.get();
        call.applyAsLong(asked);
        TruthHats other = maker.get();
        if (isText) {
            other.end(0);
        }
        List<String> got = look.apply(asked);
        List<String> want = look.apply(other);
        String first = "";
        for (int i = 0; i < Math.max(got.size(), want.size()) && first.isEmpty(); i++) {
            String here = i < got.size() ? got.get(i) : "nothing";
            String there = i < want.size() ? want.get(i) : "nothing";
            first = here.equals(there) ? "" : here + " in place of " + there;
        }
        Due.due("behind " + what + ": " + first, first.isEmpty() ? 0 : 1, 0);
    }

    private static void tell(List<String> told, String call, long answer) {
        told.add(call + " = " + answer);
    }

    private static List<String> refusals(TruthHats x) {
        List<String> told = new ArrayList<>();
        tell(told, "status()", x.status());
        for (int i = 7; i <= 11; i++) {
            tell(told, "count(" + i + ")", x.count(i));
        }
        return told;
    }

    private static List<String> hall(TruthHats x) {
        List<String> told = new ArrayList<>();
        for (int i = 0; i <= 15; i++) {
            if (i < 7 || i > 11) {
                tell(told, "count(" + i + ")", x.count(i));
            }
        }
        for (int hat = 0; hat < 7; hat++) {
            for (int i = 0; i < 5; i++) {
                tell(told, "of(" + hat + ", " + i + ")", x.of(hat, i));
            }
            tell(told, "drawn(" + hat + ", 0)", x.drawn(hat, 0));
            tell(told, "drawn(" + hat + ", 1)", x.drawn(hat, 1));
        }
        for (int peg = 0; peg < 10; peg++) {
            tell(told, "on(" + peg + ")", x.on(peg));
        }
        tell(told, "caps()", x.caps());
        tell(told, "canBe()", x.canBe());
        return told;
    }

    private static List<String> questions(TruthHats x) {
        List<String> told = new ArrayList<>();
        for (int i = 0; i <= 8; i++) {
            tell(told, "two(0, 1, " + i + ")", x.two(0, 1, i));
            tell(told, "two(1, 0, " + i + ")", x.two(1, 0, i));
            tell(told, "learns(1, " + i + ")", x.learns(1, i));
        }
        for (int i = -1; i < 7; i++) {
            tell(told, "compare(" + i + ", 0, 2)", x.compare(i, 0, 2));
            tell(told, "groups(" + i + ")", x.groups(i));
            tell(told, "later(" + i + ", 9)", x.later(i, 9));
            tell(told, "quiet(3, " + i + ")", x.quiet(3, i));
        }
        tell(told, "still()", x.still());
        tell(told, "talkative(0)", x.talkative(0));
        tell(told, "talkative(1)", x.talkative(1));
        tell(told, "ask(0)", x.ask(0));
        tell(told, "ask(1)", x.ask(1));
        tell(told, "few(2, 5)", x.few(2, 5));
        tell(told, "pegFor(0, 0, 1, 9)", x.pegFor(0, 0, 1, 9));
        tell(told, "cut(1, 0, 1)", x.cut(1, 0, 1));
        return told;
    }

    private static List<String> undone(TruthHats x) {
        List<String> told = new ArrayList<>();
        for (int i = 0; i < 18; i++) {
            tell(told, "undo() number " + i, x.undo());
            for (int hat = 0; hat < 7; hat++) {
                tell(told, "of(" + hat + ", 2) then", x.of(hat, 2));
                tell(told, "of(" + hat + ", 3) then", x.of(hat, 3));
            }
            tell(told, "HOUR then", x.count(13));
        }
        return told;
    }

    private static List<String> behindBack(TruthHats x, int k) {
        List<String> told = new ArrayList<>();
        tell(told, "back(" + k + ")", x.back(k));
        told.addAll(hall(x));
        return told;
    }

    private static List<String> tapeAsRow(TruthHats x) {
        List<String> told = new ArrayList<>();
        tell(told, "row()", x.row());
        told.addAll(hall(x));
        return told;
    }

    private static List<String> tapeAsLaw(TruthHats x) {
        List<String> told = new ArrayList<>();
        tell(told, "law()", x.law());
        tell(told, "fault()", x.count(4) < 6 ? x.fault() : TruthHats.NONE);
        return told;
    }
}
