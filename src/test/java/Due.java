import java.nio.charset.StandardCharsets;

/** What the tests share: answers that are due, and texts put on the tape. */
final class Due {
    private static int asked = 0;
    private static int wrong = 0;

    private Due() {
    }

    static void due(String what, long got, long want) {
        asked++;
        if (got != want) {
            wrong++;
            System.out.println(what + " answered " + got + ", due is " + want);
        }
    }

    static void end(String test) {
        System.out.println(test + ": " + asked + " answers, " + wrong + " not as due");
        if (wrong != 0 || asked == 0) {
            System.exit(1);
        }
    }

    /** The tape holds that text alone then. */
    static void put(TruthHats x, String text) {
        putBytes(x, text.getBytes(StandardCharsets.ISO_8859_1));
    }

    static void putBytes(TruthHats x, byte[] bytes) {
        x.end(0);
        for (int i = 0; i < bytes.length; i += 20) {
            x.feed(four(bytes, i), four(bytes, i + 4), four(bytes, i + 8), four(bytes, i + 12), four(bytes, i + 16));
        }
        x.end(bytes.length);
    }

    private static int four(byte[] bytes, int from) {
        int number = 0;
        for (int i = from; i < from + 4; i++) {
            number = number << 8 | (i < bytes.length ? bytes[i] & 255 : 32);
        }
        return number;
    }

    static int law(TruthHats x, String text) {
        put(x, text);
        return x.law();
    }

    static int orders(TruthHats x, String text) {
        put(x, text);
        return x.orders();
    }

    /** A refusal: its answer, status() and the one count that went up. */
    static void refused(TruthHats x, String what, java.util.function.IntSupplier call, int reason) {
        int[] before = new int[5];
        for (int i = 0; i < 5; i++) {
            before[i] = x.count(7 + i);
        }
        due(what, call.getAsInt(), reason);
        due("status() behind " + what, x.status(), reason);
        int[] reasons = {-1, -2, -3, -5, -6};
        for (int i = 0; i < 5; i++) {
            int more = reasons[i] == reason ? 1 : 0;
            due("count(" + (7 + i) + ") behind " + what, x.count(7 + i), before[i] + more);
        }
    }

    /** A call that is not refused: its answer, status() and counts that stay. */
    static void fine(TruthHats x, String what, java.util.function.IntSupplier call, int answer) {
        int before = 0;
        for (int i = 7; i <= 11; i++) {
            before += x.count(i);
        }
        due(what, call.getAsInt(), answer);
        due("status() behind " + what, x.status(), 0);
        int after = 0;
        for (int i = 7; i <= 11; i++) {
            after += x.count(i);
        }
        due("count(7 .. 11) behind " + what, after, before);
    }
}
