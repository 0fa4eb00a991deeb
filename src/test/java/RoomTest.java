import com.sun.management.ThreadMXBean;
import java.lang.management.ManagementFactory;

/** The room that calls take, and that none throws whatever it is asked. */
public final class RoomTest {
    private static final int CALLS = 512;
    private static final int[] NUMBERS = {Integer.MIN_VALUE, Integer.MIN_VALUE + 1, -1000000000, -401, -8, -2, -1, 0, 1, 6,
        7, 8, 9, 10, 12, 13, 20, 21, 31, 32, 33, 60, 61, 99, 100, 399, 400, 401, 999, 1000, 1000000, 1000001,
        Integer.MAX_VALUE - 1, Integer.MAX_VALUE};

    public static void main(String[] args) {
        noCallThrows(new TruthHats());
        noCallThrows(full());
        questionsTakeNoRoom();
        lawsTakeLittleRoom();
        objectsTakeLittleRoom();
        Due.end("RoomTest");
    }

    /** Seven hats, five of which hang, dear laws and much that is known. */
    private static TruthHats full() {
        TruthHats x = new TruthHats();
        for (int i = 0; i < 7; i++) {
            x.hat(i % 4, i);
            x.think(i, i);
        }
        for (int i = 0; i < 5; i++) {
            x.hang(i, 2 + i);
        }
        for (int i = 0; i < 6; i++) {
            Due.due("a dear law", Due.law(x, dear(i)), i);
        }
        x.force(5);
        return x;
    }

    private static String dear(int i) {
        return "tells 1 + hour % 2 if hour + hat + kind + tall + knows + other + like + rain > " + i
                + "; bars if thought = [[[[[hour % 8]]]]]"
                + "; bars if not (1 = 2 or 3 = 4 or 5 = 6) and thought * 7 % 3 = 2"
                + "; weighs thought * 3 + hour % 7 if thought < 5 and knows > 0"
                + "; bars if hat * other = 6 and hour % 3 = 1";
    }

    private static void noCallThrows(TruthHats x) {
        for (int a : NUMBERS) {
            for (int b : NUMBERS) {
                askAll(x, a, b);
            }
            x.feed(a, ~a, a << 8, a >>> 8, 31 * a);
            x.law();
            x.feed(a, ~a, a << 8, a >>> 8, 31 * a);
            x.orders();
            x.feed(a, ~a, a << 8, a >>> 8, 31 * a);
            x.end(a);
            x.row();
            x.caps();
            x.image(a);
            x.back(a);
        }
        Due.due("it goes on", x.end(0), 0);
    }

    private static void askAll(TruthHats x, int a, int b) {
        x.of(a, b);
        x.two(a, b, 0);
        x.two(0, a, b);
        x.on(a);
        x.later(a, b);
        x.learns(a, b);
        x.pegFor(a, 1, b, 3);
        x.pegFor(1, a, 2, b);
        x.groups(a);
        x.talkative(a);
        x.few(a, b);
        x.compare(a, b, 1);
        x.compare(0, a, b);
        x.drawn(a, b);
        x.count(a);
        x.ask(a);
        if (a < 2) {
            x.quiet(b, a);
            x.cut(b, 1, a);
        }
        x.terms(a, b);
        x.force(a);
        x.hang(a, b);
        x.take(a);
        x.think(a, b);
        x.heard(a, b);
        x.hat(a, b);
        x.capitals(a, b);
    }

    private static long taken() {
        return ((ThreadMXBean) ManagementFactory.getThreadMXBean()).getThreadAllocatedBytes(Thread.currentThread().getId());
    }

    private static void lessThan(String what, long bytes, long most) {
        Due.due(what + " took " + bytes + " bytes; that is at most " + most, bytes <= most ? 1 : 0, 1);
    }

    private static void questionsTakeNoRoom() {
        TruthHats x = full();
        taken();
        long before = taken();
        long sum = 0;
        for (int i = 0; i < CALLS; i++) {
            sum += x.quiet(12, -1) + x.cut(0, 6, 1) + x.pegFor(5, 5, 0, 60) + x.later(0, 60) + x.learns(0, 6);
            sum += x.still() + x.talkative(0) + x.capitals(i, 60) + x.few(20, 99) + x.ask(0) + x.of(0, 4);
            sum += x.image(i % 2) + x.pass() + x.undo() + x.back(i % 2);
        }
        long bytes = taken() - before;
        lessThan("15 questions asked 512 times (" + sum + ")", bytes, 20000);
    }

    private static void lawsTakeLittleRoom() {
        TruthHats x = new TruthHats();
        x.image(0);
        byte[] text = "bars;bars;bars;bars;".getBytes(java.nio.charset.StandardCharsets.ISO_8859_1);
        int word = 'b' << 24 | 'a' << 16 | 'r' << 8 | 's';
        Due.due("a word of that text", word >>> 24, text[0]);
        long before = taken();
        for (int i = 0; i < CALLS; i++) {
            x.feed(word, ';' << 24 | ' ' << 16 | ' ' << 8 | ' ', word, word, word);
            x.end(12);
            x.law();
            x.back(0);
        }
        long bytes = taken() - before;
        lessThan("512 laws", bytes, CALLS * 400);
    }

    private static void objectsTakeLittleRoom() {
        new TruthHats();
        long before = taken();
        TruthHats x = new TruthHats();
        long bytes = taken() - before;
        lessThan("an object", bytes, 14000);
        Due.due("it is new", x.count(0), 0);
    }
}
