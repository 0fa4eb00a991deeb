import java.util.Random;

/** Makes texts of both languages by chance: most that can be, some that are spoilt. */
final class Texts {
    private final Random random;
    private boolean orders;

    Texts(Random random) {
        this.random = random;
    }

    String law() {
        orders = false;
        return spoilt(joined(1 + random.nextInt(random.nextInt(4) == 0 ? 12 : 4)));
    }

    String orders() {
        orders = true;
        return spoilt(joined(1 + random.nextInt(random.nextInt(4) == 0 ? 12 : 4)));
    }

    private String joined(int clauses) {
        StringBuilder text = new StringBuilder();
        for (int i = 0; i < clauses; i++) {
            text.append(i == 0 ? "" : pick("; ", ";", " ;")).append(orders ? order() : rule());
        }
        return text.toString();
    }

    private String spoilt(String text) {
        StringBuilder spoilt = new StringBuilder(text);
        if (random.nextInt(4) == 0) {
            for (int i = random.nextInt(3); i >= 0 && spoilt.length() > 0; i--) {
                int at = random.nextInt(spoilt.length());
                switch (random.nextInt(4)) {
                    case 0:
                        spoilt.deleteCharAt(at);
                        break;
                    case 1:
                        spoilt.insert(at, pick(" ", "  ", "a", "0", "9", ";", "(", "[", "]", ")", "<", "if ", "not ",
                                "or ", "and ", "1001", "knows", "peg", "H", "\u00e9", "\n", "if", "*", "%", "times"));
                        break;
                    case 2:
                        spoilt.setLength(at);
                        break;
                    default:
                        spoilt.setCharAt(at, (char) random.nextInt(256));
                        break;
                }
            }
        }
        return spoilt.length() > 400 ? spoilt.substring(0, random.nextInt(401)) : spoilt.toString();
    }

    private String rule() {
        String head = pick("tells ", "tells ", "weighs ", "bars");
        String sum = head.equals("bars") ? "" : sum(2);
        return head + sum + (random.nextInt(3) > 0 ? " if " + test(3) : "");
    }

    private String order() {
        String times = random.nextInt(3) == 0 ? " times " + (1 + random.nextInt(random.nextBoolean() ? 4 : 20)) : "";
        String test = random.nextInt(2) == 0 ? " if " + test(2) : "";
        switch (random.nextInt(5)) {
            case 0:
                return "hang " + small(7) + " on " + small(10) + times + test;
            case 1:
                return "take " + small(7) + times + test;
            case 2:
                return "think " + small(8) + " in " + small(7) + times + test;
            default:
                return "pass" + times + test;
        }
    }

    private String small(int below) {
        return random.nextInt(4) == 0 ? sum(2) + "%" + below : Integer.toString(random.nextInt(below));
    }

    private String sum(int depth) {
        StringBuilder sum = new StringBuilder(part(depth));
        for (int i = random.nextInt(3); i > 0; i--) {
            sum.append(pick("+", "-", " * ", "*", "/", " % ")).append(part(depth));
        }
        return sum.toString();
    }

    private String part(int depth) {
        if (depth > 0 && random.nextInt(5) == 0) {
            return "[" + sum(depth - 1) + "]";
        }
        if (random.nextInt(2) == 0) {
            return random.nextInt(8) == 0 ? pick("1000", "999", "100", "0", "007") : Integer.toString(random.nextInt(9));
        }
        if (orders) {
            String hat = Integer.toString(random.nextInt(7));
            return pick("hour", "done", "latest", "hung", "peg " + hat, "knows " + hat);
        }
        return pick("hat", "kind", "tall", "knows", "other", "like", "thought", "hour", "rain");
    }

    private String test(int depth) {
        switch (depth > 0 ? random.nextInt(8) : 7) {
            case 0:
                return "not " + test(depth - 1);
            case 1:
                return "(" + test(depth - 1) + ")";
            case 2:
                return test(depth - 1) + " and " + test(depth - 1);
            case 3:
                return test(depth - 1) + " or " + test(depth - 1);
            default:
                return sum(1) + pick("<", " > ", "=", " < ", ">") + sum(1);
        }
    }

    private String pick(String... of) {
        return of[random.nextInt(of.length)];
    }
}
