import java.math.BigInteger;
import java.util.ArrayDeque;
import java.util.ArrayList;
import java.util.Arrays;
import java.util.Deque;
import java.util.HashMap;
import java.util.List;
import java.util.Map;
import java.util.TreeSet;

/** The document a second time, with the library and without regard for cost, to compare the class with. */
final class Oracle {
    static final int NONE = -1;

    static final class Fault extends Exception {
        private static final long serialVersionUID = 1L;

        final int place;

        Fault(int place) {
            this.place = place;
        }
    }

    static final class Broken extends Exception {
        private static final long serialVersionUID = 1L;
    }

    interface Value {
        long of(Map<String, Long> words) throws Broken;
    }

    static final class Hat {
        int kind;
        int tall;
        Integer peg;
        TreeSet<Integer> knows = new TreeSet<>();

        Hat copy() {
            Hat hat = new Hat();
            hat.kind = kind;
            hat.tall = tall;
            hat.peg = peg;
            hat.knows.addAll(knows);
            return hat;
        }
    }

    static final class Clause {
        String head;
        List<Value> sums = new ArrayList<>();
        Value test;
        int times = 1;
    }

    static final class World {
        List<Hat> hats = new ArrayList<>();
        int[] terms = {0, 1, 0};
        List<List<Clause>> laws = new ArrayList<>();
        int force = NONE;
        List<int[]> heard = new ArrayList<>();

        World copy() {
            World world = new World();
            for (Hat hat : hats) {
                world.hats.add(hat.copy());
            }
            world.terms = terms.clone();
            world.laws.addAll(laws);
            world.force = force;
            world.heard.addAll(heard);
            return world;
        }

        List<Clause> law(int number) {
            return number == NONE ? List.of() : laws.get(number);
        }

        boolean has(int hat) {
            return hat >= 0 && hat < hats.size();
        }

        Hat on(int peg) {
            for (Hat hat : hats) {
                if (hat.peg != null && hat.peg == peg) {
                    return hat;
                }
            }
            return null;
        }

        List<Hat> beside(Hat hat) {
            List<Hat> list = new ArrayList<>();
            if (hat.peg != null) {
                for (int step = -1; step <= 1; step += 2) {
                    Hat there = on(hat.peg + step);
                    if (there != null) {
                        list.add(there);
                    }
                }
            }
            return list;
        }

        Map<String, Long> words(int hat, int other, int thought) {
            Map<String, Long> words = new HashMap<>();
            words.put("hat", (long) hat);
            words.put("kind", (long) hats.get(hat).kind);
            words.put("tall", (long) hats.get(hat).tall);
            words.put("knows", (long) hats.get(hat).knows.size());
            words.put("other", (long) other);
            words.put("like", other < 0 ? -1L : hats.get(other).kind);
            words.put("thought", (long) thought);
            words.put("hour", (long) terms[0]);
            words.put("rain", (long) terms[2]);
            return words;
        }

        int amount(List<Clause> law, String head, int most, Map<String, Long> words) {
            int amount = 1;
            for (Clause clause : law) {
                if (!clause.head.equals(head)) {
                    continue;
                }
                try {
                    if (clause.test == null || clause.test.of(words) != 0) {
                        long value = clause.sums.get(0).of(words);
                        amount = (int) (value < 0 ? 0 : value > most ? most : value);
                    }
                } catch (Broken broken) {
                    continue;
                }
            }
            return amount;
        }

        int tells(List<Clause> law, int hat, int other) {
            return amount(law, "tells", 8, words(hat, other, NONE));
        }

        int weighs(int hat, int thought) {
            return amount(law(force), "weighs", 99, words(hat, NONE, thought));
        }

        boolean barred(int hat, int other, int thought) {
            for (Clause clause : law(force)) {
                try {
                    if (clause.head.equals("bars")
                            && (clause.test == null || clause.test.of(words(hat, other, thought)) != 0)) {
                        return true;
                    }
                } catch (Broken broken) {
                    continue;
                }
            }
            return false;
        }

        List<Integer> told(Hat hat, Hat other) {
            int a = hats.indexOf(hat);
            int b = hats.indexOf(other);
            List<Integer> list = new ArrayList<>();
            for (int thought : hat.knows) {
                if (!other.knows.contains(thought) && !barred(a, b, thought)) {
                    list.add(thought);
                }
            }
            return list.subList(0, Math.min(list.size(), tells(law(force), a, b)));
        }

        int passHour() {
            List<TreeSet<Integer>> learnt = new ArrayList<>();
            for (Hat hat : hats) {
                TreeSet<Integer> set = new TreeSet<>();
                for (Hat teller : beside(hat)) {
                    set.addAll(told(teller, hat));
                }
                learnt.add(set);
            }
            int sum = 0;
            for (int i = 0; i < hats.size(); i++) {
                sum += learnt.get(i).size();
                hats.get(i).knows.addAll(learnt.get(i));
            }
            terms[0]++;
            return sum;
        }

        World on(int hours, Map<Integer, Integer> moved) {
            World world = copy();
            moved.forEach((hat, peg) -> world.hats.get(hat).peg = peg);
            for (int i = 0; i < hours; i++) {
                world.passHour();
            }
            return world;
        }

        int worth(int hat) {
            int sum = 0;
            for (int thought : hats.get(hat).knows) {
                sum += weighs(hat, thought);
            }
            return sum;
        }

        int hang(int hat, int peg) {
            if (peg < 0 || peg > 9) {
                return -1;
            }
            if (!has(hat)) {
                return -2;
            }
            if (hats.get(hat).peg != null || on(peg) != null) {
                return -3;
            }
            hats.get(hat).peg = peg;
            return beside(hats.get(hat)).size();
        }

        int take(int hat) {
            if (!has(hat)) {
                return -2;
            }
            Integer peg = hats.get(hat).peg;
            hats.get(hat).peg = null;
            return peg == null ? -3 : peg;
        }

        int think(int hat, int thought) {
            if (thought < 0 || thought > 7) {
                return -1;
            }
            if (!has(hat)) {
                return -2;
            }
            return hats.get(hat).knows.add(thought) ? hats.get(hat).knows.size() : -3;
        }

        int pass() {
            return terms[0] >= 999 ? -3 : passHour();
        }
    }

    static final class Undo {
        int kind;
        World before;
    }

    World world = new World();
    Deque<Undo> undos = new ArrayDeque<>();
    byte[] tape = new byte[0];
    int[] refusals = new int[7];
    int status;
    int caps;
    int fault = NONE;
    int stopped = NONE;
    World capitals;
    World[] images = new World[2];

    private int settle(int answer, boolean refused) {
        status = refused ? answer : 0;
        if (refused) {
            refusals[-answer]++;
        }
        return answer;
    }

    private static int bits(Iterable<Integer> set) {
        int bits = 0;
        for (int i : set) {
            bits |= 1 << i;
        }
        return bits;
    }

    private static boolean in(int value, int least, int most) {
        return least <= value && value <= most;
    }

    int hat(int kind, int tall) {
        if (!in(kind, 0, 3) || !in(tall, 0, 9)) {
            return settle(-1, true);
        }
        if (world.hats.size() == 7) {
            return settle(-5, true);
        }
        Hat hat = new Hat();
        hat.kind = kind;
        hat.tall = tall;
        world.hats.add(hat);
        undos.clear();
        return settle(world.hats.size() - 1, false);
    }

    int of(int hat, int what) {
        if (!world.has(hat) || !in(what, 0, 4)) {
            return NONE;
        }
        Hat it = world.hats.get(hat);
        return new int[] {it.kind, it.tall, it.peg == null ? NONE : it.peg, bits(it.knows), world.worth(hat)}[what];
    }

    int two(int hat, int other, int what) {
        if (!world.has(hat) || !world.has(other) || hat == other || !in(what, 0, 8)) {
            return NONE;
        }
        return what == 0 ? world.tells(world.law(world.force), hat, other) : world.barred(hat, other, what - 1) ? 1 : 0;
    }

    int on(int peg) {
        return world.hats.indexOf(world.on(peg));
    }

    int terms(int what, int value) {
        if (!in(what, 0, 2) || !in(value, 0, new int[] {999, 10, 9}[what])) {
            return settle(-1, true);
        }
        int before = world.terms[what];
        world.terms[what] = value;
        undos.clear();
        return settle(before, false);
    }

    int feed(int a, int b, int c, int d, int e) {
        if (tape.length + 20 > 400) {
            return NONE;
        }
        int[] numbers = {a, b, c, d, e};
        byte[] more = Arrays.copyOf(tape, tape.length + 20);
        for (int i = 0; i < 20; i++) {
            more[tape.length + i] = (byte) (numbers[i / 4] >>> (24 - i % 4 * 8));
        }
        tape = more;
        return tape.length;
    }

    int end(int n) {
        if (!in(n, 0, tape.length)) {
            return NONE;
        }
        tape = Arrays.copyOf(tape, n);
        return n;
    }

    int row() {
        if (tape.length == 0) {
            return settle(-6, true);
        }
        undos.clear();
        caps = 0;
        int came = 0;
        for (int i = 0; i < tape.length; i += 3) {
            boolean whole = i + 3 <= tape.length;
            if (whole && in(tape[i], 0, 3) && in(tape[i + 1], 0, 9) && world.hats.size() < 7) {
                Hat hat = new Hat();
                hat.kind = tape[i];
                hat.tall = tape[i + 1];
                for (int thought = 0; thought < 8; thought++) {
                    if ((tape[i + 2] >> thought & 1) == 1) {
                        hat.knows.add(thought);
                    }
                }
                world.hats.add(hat);
                came++;
            } else {
                caps++;
            }
        }
        tape = new byte[0];
        return settle(came, false);
    }

    int law() {
        byte[] text = tape;
        tape = new byte[0];
        if (world.laws.size() == 6) {
            return settle(-5, true);
        }
        try {
            fault = NONE;
            world.laws.add(new Parser(text, false).text());
            return settle(world.laws.size() - 1, false);
        } catch (Fault there) {
            fault = there.place;
            return settle(-6, true);
        }
    }

    int orders() {
        byte[] text = tape;
        tape = new byte[0];
        stopped = NONE;
        List<Clause> clauses;
        try {
            fault = NONE;
            clauses = new Parser(text, true).text();
        } catch (Fault there) {
            fault = there.place;
            return settle(-6, true);
        }
        World before = world.copy();
        Deque<Undo> undosBefore = new ArrayDeque<>(undos);
        int done = run(clauses);
        if (stopped != NONE) {
            world = before;
            undos = undosBefore;
            return settle(-3, true);
        }
        return settle(done, false);
    }

    private int run(List<Clause> clauses) {
        int done = 0;
        int latest = NONE;
        for (Clause clause : clauses) {
            for (int i = 0; i < clause.times; i++) {
                Map<String, Long> words = orderWords(done, latest);
                try {
                    if (clause.test != null && clause.test.of(words) == 0) {
                        continue;
                    }
                } catch (Broken broken) {
                    continue;
                }
                int answer;
                try {
                    answer = run(clause, words);
                } catch (Broken broken) {
                    answer = -3;
                }
                if (answer < 0) {
                    stopped = clauses.indexOf(clause);
                    return done;
                }
                done++;
                if (clause.head.equals("pass")) {
                    latest = answer;
                }
            }
        }
        return done;
    }

    private int run(Clause clause, Map<String, Long> words) throws Broken {
        int[] values = new int[clause.sums.size()];
        for (int i = 0; i < values.length; i++) {
            values[i] = (int) clause.sums.get(i).of(words);
        }
        switch (clause.head) {
            case "hang":
                return doing(0, values[0], values[1]);
            case "take":
                return doing(1, values[0], 0);
            case "think":
                return doing(2, values[1], values[0]);
            default:
                return doing(3, 0, 0);
        }
    }

    private Map<String, Long> orderWords(int done, int latest) {
        Map<String, Long> words = new HashMap<>();
        words.put("hour", (long) world.terms[0]);
        words.put("done", (long) done);
        words.put("latest", (long) latest);
        words.put("hung", (long) count(1));
        for (int hat = 0; hat < 7; hat++) {
            words.put("peg " + hat, (long) of(hat, 2));
            words.put("knows " + hat, world.has(hat) ? world.hats.get(hat).knows.size() : -1L);
        }
        return words;
    }

    private int doing(int kind, int hat, int number) {
        Undo undo = new Undo();
        undo.kind = kind;
        undo.before = world.copy();
        int answer = kind == 0 ? world.hang(hat, number)
                : kind == 1 ? world.take(hat)
                : kind == 2 ? world.think(hat, number) : world.pass();
        if (answer >= 0) {
            undos.addLast(undo);
            if (undos.size() > 16) {
                undos.removeFirst();
            }
        }
        return answer;
    }

    int fault() {
        return fault;
    }

    int stopped() {
        return stopped;
    }

    int caps() {
        return caps;
    }

    int force(int law) {
        if (!in(law, NONE, world.laws.size() - 1)) {
            return settle(-2, true);
        }
        int before = world.force;
        world.force = law;
        return settle(before, false);
    }

    int hang(int hat, int peg) {
        int answer = doing(0, hat, peg);
        return settle(answer, answer < 0);
    }

    int take(int hat) {
        int answer = doing(1, hat, 0);
        return settle(answer, answer < 0);
    }

    int think(int hat, int thought) {
        int answer = doing(2, hat, thought);
        return settle(answer, answer < 0);
    }

    int pass() {
        int answer = doing(3, 0, 0);
        return settle(answer, answer < 0);
    }

    int undo() {
        if (undos.isEmpty()) {
            return settle(-3, true);
        }
        Undo undo = undos.removeLast();
        world.terms[0] = undo.before.terms[0];
        for (int i = 0; i < world.hats.size(); i++) {
            world.hats.get(i).peg = undo.before.hats.get(i).peg;
            world.hats.get(i).knows = new TreeSet<>(undo.before.hats.get(i).knows);
        }
        return settle(undo.kind, false);
    }

    int later(int hat, int n) {
        return !world.has(hat) || !in(n, 0, 60) ? NONE : bits(world.on(n, Map.of()).hats.get(hat).knows);
    }

    int learns(int hat, int thought) {
        for (int n = 0; n <= 60 && world.has(hat); n++) {
            if (world.on(n, Map.of()).hats.get(hat).knows.contains(thought)) {
                return n;
            }
        }
        return NONE;
    }

    int still() {
        World on = world.copy();
        int still = 0;
        for (int n = 1; n <= 60; n++) {
            still = on.passHour() > 0 ? n : still;
        }
        return still;
    }

    int pegFor(int hat, int thought, int other, int n) {
        if (!world.has(hat) || !world.has(other) || hat == other || !in(thought, 0, 7) || !in(n, 1, 60)) {
            return NONE;
        }
        int best = NONE;
        long fewest = 100;
        for (int peg = 0; peg < 10; peg++) {
            if (world.on(peg) != null && world.on(peg) != world.hats.get(hat)) {
                continue;
            }
            World then = world.on(n, Map.of(hat, peg));
            long knowers = 0;
            for (int i = 0; i < then.hats.size(); i++) {
                knowers += i != hat && i != other && then.hats.get(i).knows.contains(thought) ? 1 : 0;
            }
            if (then.hats.get(other).knows.contains(thought) && knowers < fewest) {
                best = peg;
                fewest = knowers;
            }
        }
        return best;
    }

    int cut(int hat, int thought, int what) {
        if (!world.has(hat) || !in(thought, 0, 7) || !in(what, 0, 1) || world.hats.get(hat).knows.contains(thought)) {
            return NONE;
        }
        for (int size = 0; size < 7; size++) {
            for (int set = 0; set < 128; set++) {
                if (Integer.bitCount(set) == size && cuts(set, hat, thought)) {
                    return what == 0 ? size : set;
                }
            }
        }
        throw new IllegalStateException();
    }

    private boolean cuts(int set, int hat, int thought) {
        Map<Integer, Integer> moved = new HashMap<>();
        for (int i = 0; i < 7; i++) {
            if ((set >> i & 1) == 1) {
                if (i == hat || !world.has(i) || world.hats.get(i).peg == null) {
                    return false;
                }
                moved.put(i, null);
            }
        }
        return !world.on(60, moved).hats.get(hat).knows.contains(thought);
    }

    int quiet(int n, int i) {
        List<Integer> off = new ArrayList<>();
        for (Hat hat : world.hats) {
            if (hat.peg == null) {
                off.add(world.hats.indexOf(hat));
            }
        }
        if (!in(n, 1, 12) || off.size() > 3 || !in(i, -1, off.size() - 1)) {
            return NONE;
        }
        int[] best = {Integer.MAX_VALUE};
        int[][] row = {null};
        tryRows(n, off, new ArrayList<>(), best, row);
        return i < 0 ? best[0] : row[0][i];
    }

    private void tryRows(int n, List<Integer> off, List<Integer> pegs, int[] best, int[][] row) {
        if (pegs.size() < off.size()) {
            for (int peg = 0; peg < 10; peg++) {
                if (world.on(peg) == null && !pegs.contains(peg)) {
                    pegs.add(peg);
                    tryRows(n, off, pegs, best, row);
                    pegs.remove(pegs.size() - 1);
                }
            }
            return;
        }
        Map<Integer, Integer> moved = new HashMap<>();
        for (int i = 0; i < off.size(); i++) {
            moved.put(off.get(i), pegs.get(i));
        }
        World then = world.on(n, moved);
        int weight = 0;
        for (int hat = 0; hat < then.hats.size(); hat++) {
            weight += then.worth(hat);
        }
        if (weight < best[0]) {
            best[0] = weight;
            row[0] = pegs.stream().mapToInt(Integer::intValue).toArray();
        }
    }

    private List<TreeSet<Integer>> groupSets() {
        List<TreeSet<Integer>> groups = new ArrayList<>();
        boolean open = false;
        for (int peg = 0; peg < 10; peg++) {
            Hat there = world.on(peg);
            if (there != null && !open) {
                groups.add(new TreeSet<>());
            }
            open = there != null;
            if (open) {
                groups.get(groups.size() - 1).add(world.hats.indexOf(there));
            }
        }
        return groups;
    }

    int groups(int hat) {
        if (hat == NONE) {
            return groupSets().size();
        }
        if (!world.has(hat)) {
            return NONE;
        }
        for (TreeSet<Integer> group : groupSets()) {
            if (group.contains(hat)) {
                return bits(group);
            }
        }
        return 0;
    }

    int talkative(int what) {
        if (world.hats.isEmpty() || !in(what, 0, 1)) {
            return NONE;
        }
        int best = 0;
        int most = -1;
        for (Hat hat : world.hats) {
            int told = 0;
            for (Hat other : world.beside(hat)) {
                told += world.told(hat, other).size();
            }
            if (told > most) {
                most = told;
                best = world.hats.indexOf(hat);
            }
        }
        return what == 0 ? best : most;
    }

    int heard(int thought, int is) {
        if (!in(thought, 0, 7) || !in(is, 0, 1)) {
            return settle(-1, true);
        }
        if (world.heard.size() == 6) {
            return settle(-5, true);
        }
        world.heard.add(new int[] {thought, is});
        return settle(world.heard.size(), false);
    }

    int forget() {
        int before = world.heard.size();
        world.heard.clear();
        return before;
    }

    int canBe() {
        List<Integer> can = new ArrayList<>();
        for (int i = 0; i < world.hats.size(); i++) {
            boolean fits = true;
            for (int[] heard : world.heard) {
                fits &= world.hats.get(i).knows.contains(heard[0]) == (heard[1] == 1);
            }
            if (fits) {
                can.add(i);
            }
        }
        return bits(can);
    }

    int ask(int what) {
        int can = canBe();
        if (can == 0 || !in(what, 0, 1)) {
            return NONE;
        }
        int best = -1;
        int fewest = 100;
        for (int thought = 0; thought < 8; thought++) {
            int yes = 0;
            int no = 0;
            for (int i = 0; i < world.hats.size(); i++) {
                if ((can >> i & 1) == 1) {
                    if (world.hats.get(i).knows.contains(thought)) {
                        yes++;
                    } else {
                        no++;
                    }
                }
            }
            if (Math.max(yes, no) < fewest) {
                fewest = Math.max(yes, no);
                best = thought;
            }
        }
        return what == 0 ? best : fewest;
    }

    long few(int k, int n) {
        if (!in(k, 1, 20) || !in(n, 0, 99)) {
            return NONE;
        }
        List<BigInteger> parts = new ArrayList<>(List.of(BigInteger.TEN.pow(12)));
        BigInteger leaks = BigInteger.valueOf(world.terms[1]);
        BigInteger rest = BigInteger.TEN.subtract(leaks);
        for (int i = 0; i < n; i++) {
            List<BigInteger> next = new ArrayList<>();
            for (int j = 0; j <= parts.size(); j++) {
                BigInteger stays = j < parts.size() ? parts.get(j).multiply(rest).divide(BigInteger.TEN) : BigInteger.ZERO;
                BigInteger comes = j > 0 ? parts.get(j - 1).multiply(leaks).divide(BigInteger.TEN) : BigInteger.ZERO;
                next.add(stays.add(comes));
            }
            parts = next;
        }
        BigInteger sum = BigInteger.ZERO;
        for (int j = 0; j < Math.min(k, parts.size()); j++) {
            sum = sum.add(parts.get(j));
        }
        return sum.longValueExact();
    }

    int compare(int law, int hat, int other) {
        if (!in(law, NONE, world.laws.size() - 1) || two(hat, other, 0) == NONE) {
            return NONE;
        }
        return world.tells(world.law(law), hat, other);
    }

    int capitals(int seed, int n) {
        if (!in(seed, 0, 1000000) || !in(n, 1, 60)) {
            return settle(-1, true);
        }
        if (world.hats.isEmpty()) {
            return settle(-3, true);
        }
        capitals = world.copy();
        long s = seed;
        int learnt = 0;
        for (int i = 0; i < n; i++) {
            if (capitals.terms[0] >= 999) {
                break;
            }
            int[] draws = new int[4];
            int[] of = {capitals.hats.size(), 10, 8, 4};
            for (int j = 0; j < 4; j++) {
                s = (s * 1103 + 12345) % 1000003;
                draws[j] = (int) (s % of[j]);
            }
            switch (draws[3]) {
                case 0:
                    capitals.hang(draws[0], draws[1]);
                    break;
                case 1:
                    capitals.take(draws[0]);
                    break;
                case 2:
                    capitals.think(draws[0], draws[2]);
                    break;
                default:
                    break;
            }
            learnt += capitals.passHour();
        }
        return settle(learnt, false);
    }

    int drawn(int k, int what) {
        if (capitals == null || !capitals.has(k) || !in(what, 0, 1)) {
            return NONE;
        }
        Hat hat = capitals.hats.get(k);
        return what == 1 ? bits(hat.knows) : hat.peg == null ? NONE : hat.peg;
    }

    int image(int k) {
        if (!in(k, 0, 1)) {
            return settle(-1, true);
        }
        images[k] = world.copy();
        return settle(0, false);
    }

    int back(int k) {
        if (!in(k, 0, 1)) {
            return settle(-1, true);
        }
        if (images[k] == null) {
            return settle(-2, true);
        }
        world = images[k].copy();
        undos.clear();
        return settle(0, false);
    }

    int count(int what) {
        TreeSet<Integer> known = new TreeSet<>();
        int hung = 0;
        for (Hat hat : world.hats) {
            known.addAll(hat.knows);
            hung += hat.peg == null ? 0 : 1;
        }
        int[] counts = {world.hats.size(), hung, bits(known), world.heard.size(), world.laws.size(), undos.size(),
            tape.length, refusals[1], refusals[2], refusals[3], refusals[5], refusals[6], world.force,
            world.terms[0], world.terms[1], world.terms[2]};
        return in(what, 0, counts.length - 1) ? counts[what] : NONE;
    }

    int status() {
        return status;
    }

    /** Reads a text into values that look up their words by name. */
    static final class Parser {
        private final List<String> tokens = new ArrayList<>();
        private final List<Integer> places = new ArrayList<>();
        private final boolean orders;
        private int at;
        private int parts;

        Parser(byte[] bytes, boolean orders) {
            this.orders = orders;
            StringBuilder all = new StringBuilder();
            for (byte b : bytes) {
                all.append((char) (b & 255));
            }
            java.util.regex.Matcher matcher =
                    java.util.regex.Pattern.compile("[a-z]+|[0-9]+|[^ ]", java.util.regex.Pattern.DOTALL).matcher(all);
            while (matcher.find()) {
                tokens.add(matcher.group());
                places.add(matcher.start());
            }
            tokens.add("");
            places.add(bytes.length);
        }

        private String token() {
            return tokens.get(at);
        }

        private Fault fault() {
            return new Fault(places.get(at));
        }

        private boolean takes(String token) {
            if (token().equals(token)) {
                at++;
                return true;
            }
            return false;
        }

        private void must(String token) throws Fault {
            if (!takes(token)) {
                throw fault();
            }
        }

        List<Clause> text() throws Fault {
            List<Clause> clauses = new ArrayList<>();
            do {
                if (clauses.size() == 12) {
                    throw fault();
                }
                clauses.add(clause());
            } while (takes(";"));
            must("");
            return clauses;
        }

        private Clause clause() throws Fault {
            Clause clause = new Clause();
            clause.head = token();
            if (!List.of((orders ? "hang take think pass" : "tells weighs bars").split(" ")).contains(clause.head)) {
                throw fault();
            }
            at++;
            if (!clause.head.equals("pass") && !clause.head.equals("bars")) {
                clause.sums.add(sum(0));
            }
            if (clause.head.equals("hang") || clause.head.equals("think")) {
                must(clause.head.equals("hang") ? "on" : "in");
                clause.sums.add(sum(0));
            }
            if (orders && takes("times")) {
                clause.times = number(1, 20);
            }
            if (takes("if")) {
                clause.test = test(0);
            }
            return clause;
        }

        private int number(int least, int most) throws Fault {
            if (!token().matches("[0-9]+")) {
                throw fault();
            }
            BigInteger value = new BigInteger(token());
            if (value.compareTo(BigInteger.valueOf(least)) < 0 || value.compareTo(BigInteger.valueOf(most)) > 0) {
                throw fault();
            }
            at++;
            return value.intValue();
        }

        private Value test(int depth) throws Fault {
            Value left = both(depth);
            if (!takes("or")) {
                return left;
            }
            Value right = test(depth);
            return words -> left.of(words) != 0 ? 1 : right.of(words);
        }

        private Value both(int depth) throws Fault {
            Value left = plain(depth);
            if (!takes("and")) {
                return left;
            }
            Value right = both(depth);
            return words -> left.of(words) == 0 ? 0 : right.of(words);
        }

        private Value plain(int depth) throws Fault {
            if (takes("not")) {
                Value inner = plain(depth);
                return words -> 1 - inner.of(words);
            }
            if (token().equals("(")) {
                if (depth == 8) {
                    throw fault();
                }
                at++;
                Value inner = test(depth + 1);
                must(")");
                return inner;
            }
            Value left = sum(depth);
            String sign = token();
            if (!List.of("<", ">", "=").contains(sign)) {
                throw fault();
            }
            at++;
            Value right = sum(depth);
            return words -> {
                int order = Long.compare(left.of(words), right.of(words));
                return (sign.equals("<") ? order < 0 : sign.equals(">") ? order > 0 : order == 0) ? 1 : 0;
            };
        }

        private Value sum(int depth) throws Fault {
            Value value = term(depth);
            while (List.of("+", "-").contains(token())) {
                String sign = token();
                at++;
                value = step(sign, value, term(depth));
            }
            return value;
        }

        private Value term(int depth) throws Fault {
            Value value = part(depth);
            while (List.of("*", "/", "%").contains(token())) {
                String sign = token();
                at++;
                value = step(sign, value, part(depth));
            }
            return value;
        }

        private static Value step(String sign, Value left, Value right) {
            return words -> {
                BigInteger a = BigInteger.valueOf(left.of(words));
                BigInteger b = BigInteger.valueOf(right.of(words));
                if ((sign.equals("/") || sign.equals("%")) && b.signum() == 0) {
                    throw new Broken();
                }
                BigInteger c = sign.equals("+") ? a.add(b)
                        : sign.equals("-") ? a.subtract(b)
                        : sign.equals("*") ? a.multiply(b) : sign.equals("/") ? a.divide(b) : a.remainder(b);
                if (c.abs().compareTo(BigInteger.valueOf(1000000000)) > 0) {
                    throw new Broken();
                }
                return c.longValueExact();
            };
        }

        private Value part(int depth) throws Fault {
            if (token().equals("[")) {
                if (depth == 8) {
                    throw fault();
                }
                at++;
                Value inner = sum(depth + 1);
                must("]");
                return inner;
            }
            if (parts == 50) {
                throw fault();
            }
            if (token().matches("[0-9]+")) {
                int number = number(0, 1000);
                parts++;
                return words -> number;
            }
            String known = orders ? "hour done latest hung peg knows"
                    : "hat kind tall knows other like thought hour rain";
            String word = token();
            if (!List.of(known.split(" ")).contains(word)) {
                throw fault();
            }
            at++;
            parts++;
            if (orders && (word.equals("peg") || word.equals("knows"))) {
                String key = word + " " + number(0, 6);
                return words -> words.get(key);
            }
            return words -> words.get(word);
        }
    }
}
