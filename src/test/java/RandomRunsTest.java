import java.util.Random;

/** Runs of calls by chance (the same ones each time), each answer compared with what Oracle answers. */
public final class RandomRunsTest {
    private static final int RUNS = 1500;
    private static final int[] ODD = {-1, -2, 7, 8, 9, 10, 11, 60, 61, 99, 100, 999, 1000, 1000000, 1000001,
        Integer.MIN_VALUE, Integer.MAX_VALUE, Integer.MIN_VALUE + 1, 1 << 16, -1 << 8};

    private final Random random;
    private final Texts texts;
    private final TruthHats x = new TruthHats();
    private final Oracle y = new Oracle();
    private final StringBuilder story = new StringBuilder();

    private RandomRunsTest(long seed) {
        random = new Random(seed);
        texts = new Texts(random);
    }

    public static void main(String[] args) {
        int runs = args.length > 0 ? Integer.parseInt(args[0]) : RUNS;
        long first = args.length > 1 ? Long.parseLong(args[1]) : 0;
        for (long seed = first; seed < first + runs; seed++) {
            RandomRunsTest run = new RandomRunsTest(seed);
            if (!run.goes()) {
                System.out.println("seed " + seed + ":" + run.story);
                break;
            }
        }
        Due.end("RandomRunsTest");
    }

    private boolean goes() {
        int calls = 20 + random.nextInt(200);
        int start = random.nextInt(8);
        for (int i = 0; i < start; i++) {
            same(0);
        }
        for (int i = 0; i < calls; i++) {
            boolean well = same(random.nextInt(100)) && states();
            if (!well) {
                return false;
            }
        }
        return true;
    }

    private int number(int below) {
        return random.nextInt(16) == 0 ? ODD[random.nextInt(ODD.length)] : random.nextInt(below);
    }

    private boolean told(String call, long got, long want) {
        story.append("\n  ").append(call).append(" = ").append(want);
        Due.due(call, got, want);
        return got == want;
    }

    private boolean states() {
        boolean well = x.status() == y.status() && x.fault() == y.fault() && x.stopped() == y.stopped()
                && x.caps() == y.caps();
        for (int what = -1; what <= 16; what++) {
            well &= x.count(what) == y.count(what);
        }
        for (int hat = 0; hat < x.count(0); hat++) {
            well &= x.of(hat, 2) == y.of(hat, 2) && x.of(hat, 3) == y.of(hat, 3);
        }
        if (!well) {
            Due.due("the state behind that call", 0, 1);
        }
        return well;
    }

    private void tape(String text) {
        story.append("\n  tape: \"").append(text).append('"');
        byte[] bytes = text.getBytes(java.nio.charset.StandardCharsets.ISO_8859_1);
        Due.putBytes(x, bytes);
        y.tape = bytes;
    }

    private boolean same(int choice) {
        int hat = number(7);
        int other = number(7);
        int thought = number(8);
        int peg = number(10);
        if (choice < 6) {
            int kind = number(4);
            return told("hat(" + kind + ", " + peg + ")", x.hat(kind, peg), y.hat(kind, peg));
        } else if (choice < 22) {
            return told("hang(" + hat + ", " + peg + ")", x.hang(hat, peg), y.hang(hat, peg));
        } else if (choice < 25) {
            return told("take(" + hat + ")", x.take(hat), y.take(hat));
        } else if (choice < 37) {
            return told("think(" + hat + ", " + thought + ")", x.think(hat, thought), y.think(hat, thought));
        } else if (choice < 43) {
            return told("pass()", x.pass(), y.pass());
        } else if (choice < 47) {
            return told("undo()", x.undo(), y.undo());
        } else if (choice < 52) {
            tape(texts.law());
            return told("law()", x.law(), y.law());
        } else if (choice < 58) {
            tape(texts.orders());
            return told("orders()", x.orders(), y.orders());
        } else if (choice < 62) {
            int law = random.nextInt(8) - 1;
            return told("force(" + law + ")", x.force(law), y.force(law));
        }
        return choice < 80 ? sameQuestion(hat, other, thought, peg) : sameRest(choice, hat, other, thought, peg);
    }

    private boolean sameQuestion(int hat, int other, int thought, int peg) {
        int n = random.nextInt(3) == 0 ? number(61) : number(13);
        int what = number(2);
        switch (random.nextInt(10)) {
            case 0:
                return told("later(" + hat + ", " + n + ")", x.later(hat, n), y.later(hat, n));
            case 1:
                return told("learns(" + hat + ", " + thought + ")", x.learns(hat, thought), y.learns(hat, thought));
            case 2:
                return told("still()", x.still(), y.still());
            case 3:
                return told("pegFor(" + hat + ", " + thought + ", " + other + ", " + n + ")",
                        x.pegFor(hat, thought, other, n), y.pegFor(hat, thought, other, n));
            case 4:
                return random.nextInt(3) > 0 || told("cut(" + hat + ", " + thought + ", " + what + ")",
                        x.cut(hat, thought, what), y.cut(hat, thought, what));
            case 5:
                int i = number(5) - 1;
                return random.nextInt(3) > 0
                        || told("quiet(" + n + ", " + i + ")", x.quiet(n, i), y.quiet(n, i));
            case 6:
                return told("groups(" + (hat - 1) + ")", x.groups(hat - 1), y.groups(hat - 1));
            case 7:
                return told("talkative(" + what + ")", x.talkative(what), y.talkative(what));
            case 8:
                int law = random.nextInt(8) - 1;
                return told("compare(" + law + ", " + hat + ", " + other + ")",
                        x.compare(law, hat, other), y.compare(law, hat, other));
            default:
                return told("two(" + hat + ", " + other + ", " + peg + ")",
                        x.two(hat, other, peg), y.two(hat, other, peg));
        }
    }

    private boolean sameRest(int choice, int hat, int other, int thought, int peg) {
        int what = number(2);
        switch (choice) {
            case 80:
                int value = number(random.nextInt(4) == 0 ? 1000 : 10);
                int term = number(3);
                return told("terms(" + term + ", " + value + ")", x.terms(term, value), y.terms(term, value));
            case 81:
                byte[] bytes = new byte[random.nextInt(14)];
                for (int i = 0; i < bytes.length; i++) {
                    bytes[i] = (byte) (i % 3 == 2 ? random.nextInt(256) : random.nextInt(i % 3 == 0 ? 5 : 11));
                }
                tape(new String(bytes, java.nio.charset.StandardCharsets.ISO_8859_1));
                return told("row()", x.row(), y.row());
            case 82:
                return told("row()", x.row(), y.row());
            case 83:
            case 84:
                int n = number(400);
                return told("end(" + n + ")", x.end(n), y.end(n));
            case 85:
            case 86:
                int a = random.nextInt();
                return told("feed(" + a + ", ...)", x.feed(a, hat, peg, -a, a * 31), y.feed(a, hat, peg, -a, a * 31));
            case 87:
            case 88:
            case 89:
                return told("heard(" + thought + ", " + what + ")", x.heard(thought, what), y.heard(thought, what));
            case 90:
                return told("canBe()", x.canBe(), y.canBe());
            case 91:
            case 92:
                return told("ask(" + what + ")", x.ask(what), y.ask(what));
            case 93:
                return told("forget()", x.forget(), y.forget());
            case 94:
                int k = number(21);
                int m = number(100);
                return told("few(" + k + ", " + m + ")", x.few(k, m), y.few(k, m));
            case 95:
                int seed = random.nextInt(3) == 0 ? number(1000001) : random.nextInt(1000001);
                int times = number(61);
                return told("capitals(" + seed + ", " + times + ")", x.capitals(seed, times), y.capitals(seed, times));
            case 96:
                return told("drawn(" + hat + ", " + what + ")", x.drawn(hat, what), y.drawn(hat, what));
            case 97:
                return told("image(" + what + ")", x.image(what), y.image(what));
            case 98:
                return told("back(" + what + ")", x.back(what), y.back(what));
            default:
                int of = number(5);
                return told("of(" + hat + ", " + of + ")", x.of(hat, of), y.of(hat, of))
                        && told("on(" + peg + ")", x.on(peg), y.on(peg));
        }
    }
}
