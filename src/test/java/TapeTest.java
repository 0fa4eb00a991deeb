/** Promises 7 to 15: the tape, rows, laws, orders, where they are at fault or stop, the law in force. */
public final class TapeTest {
    public static void main(String[] args) {
        feedAndEnd();
        row();
        rowWithoutRoom();
        law();
        lawFaults();
        lawAmounts();
        lawWords();
        lawBroken();
        orders();
        orderWords();
        ordersThatStop();
        orderFaults();
        ordersUndone();
        manyTexts();
        fault();
        force();
        Due.end("TapeTest");
    }

    private static void feedAndEnd() {
        TruthHats x = new TruthHats();
        for (int i = 1; i <= 20; i++) {
            Due.due("7: feed() number " + i, x.feed(0, 0, 0, 0, 0), 20 * i);
        }
        Due.due("7: a feed() beyond 400", x.feed(0, 0, 0, 0, 0), -1);
        Due.due("7: count(6)", x.count(6), 400);
        Due.due("8: end(401)", x.end(401), -1);
        Due.due("8: end(-1)", x.end(-1), -1);
        Due.due("8: end(381)", x.end(381), 381);
        Due.due("7: feed() with 19 left", x.feed(0, 0, 0, 0, 0), -1);
        Due.due("8: end(382)", x.end(382), -1);
        Due.due("8: end(380)", x.end(380), 380);
        Due.due("7: feed() with 20 left", x.feed(0, 0, 0, 0, 0), 400);
        Due.due("8: end(400)", x.end(400), 400);
        Due.due("8: end(0)", x.end(0), 0);
        Due.due("8: count(6)", x.count(6), 0);
        Due.due("7: the highest byte comes first",
                x.feed(0x0309ff02, 0x08800101, 0x01000000, 0, 0), 20);
        x.end(9);
        Due.due("9: three hats of these bytes", x.row(), 3);
        Due.due("7: of(0, 3)", x.of(0, 3), 255);
        Due.due("7: of(1, 1)", x.of(1, 1), 8);
        Due.due("7: of(1, 3)", x.of(1, 3), 128);
        Due.due("7: of(2, 0)", x.of(2, 0), 1);
    }

    private static void row() {
        TruthHats x = new TruthHats();
        Due.refused(x, "9: row() of an empty tape", () -> x.row(), -6);
        Due.due("10: caps() ahead of any", x.caps(), 0);
        Due.putBytes(x, new byte[] {3, 9, -1, 4, 0, 1, 0, 10, 1, 0, 0, 2, 1});
        Due.fine(x, "9: row()", () -> x.row(), 2);
        Due.due("10: caps()", x.caps(), 3);
        Due.due("9: the tape is empty", x.count(6), 0);
        Due.due("9: of(0, 3)", x.of(0, 3), 255);
        Due.due("9: of(1, 3)", x.of(1, 3), 2);
        Due.due("9: it is off", x.of(1, 2), -1);
        Due.refused(x, "9: row() again", () -> x.row(), -6);
        Due.due("10: caps() behind a refused row()", x.caps(), 3);
        Due.putBytes(x, new byte[] {0, 0});
        Due.fine(x, "9: row() of two bytes", () -> x.row(), 0);
        Due.due("10: caps() of two bytes", x.caps(), 1);
        Due.putBytes(x, new byte[] {2, 5, 0});
        Due.fine(x, "9: row() of one hat", () -> x.row(), 1);
        Due.due("10: caps() of none", x.caps(), 0);
    }

    private static void rowWithoutRoom() {
        TruthHats x = new TruthHats();
        byte[] bytes = new byte[27];
        Due.putBytes(x, bytes);
        Due.fine(x, "9: row() of nine hats", () -> x.row(), 7);
        Due.due("10: two have no room", x.caps(), 2);
        Due.putBytes(x, new byte[] {0, 0, 0});
        Due.fine(x, "9: row() without room", () -> x.row(), 0);
        Due.due("10: caps() without room", x.caps(), 1);
    }

    private static void law() {
        TruthHats x = new TruthHats();
        x.pass();
        for (int i = 0; i < 6; i++) {
            Due.put(x, "tells " + i);
            int number = i;
            Due.fine(x, "11: law() number " + i, () -> x.law(), number);
            Due.due("11: the tape is empty", x.count(6), 0);
        }
        Due.due("11: count(4)", x.count(4), 6);
        Due.due("11: it leaves what can be undone", x.count(5), 1);
        Due.put(x, "tells x");
        Due.refused(x, "11: a seventh law", () -> x.law(), -5);
        Due.due("11: the tape is empty behind -5, too", x.count(6), 0);
        Due.due("13: fault() of the latest that was read", x.fault(), -1);
        TruthHats y = new TruthHats();
        Due.put(y, "     ");
        Due.refused(y, "11: blanks alone", () -> y.law(), -6);
        Due.due("13: fault() at the end", y.fault(), 5);
        Due.refused(y, "11: an empty tape", () -> y.law(), -6);
        Due.due("13: fault() of an empty tape", y.fault(), 0);
        Due.due("11: count(4) behind -6", y.count(4), 0);
    }

    /** The law's fault; NONE, if it can be. */
    private static void fault(String text, int place) {
        TruthHats x = new TruthHats();
        Due.put(x, text);
        int answer = place < 0 ? 0 : -6;
        Due.due("11: law \"" + text + "\"", x.law(), answer);
        Due.due("13: fault() of \"" + text + "\"", x.fault(), place);
        Due.due("11: status() of it", x.status(), Math.min(answer, 0));
    }

    private static void orderFault(String text, int place) {
        TruthHats x = new TruthHats();
        Due.put(x, text);
        boolean reads = x.orders() != -6;
        Due.due("12: \"" + text + "\" can be read", reads ? 1 : 0, place < 0 ? 1 : 0);
        Due.due("13: fault() of \"" + text + "\"", x.fault(), place);
    }

    private static void lawFaults() {
        fault("tells 1", -1);
        fault("  tells1  ", -1);
        fault("tells 1000", -1);
        fault("tells 1001", 6);
        fault("tells 0001000", -1);
        fault("tells 99999999999999999999", 6);
        fault("Tells 1", 0);
        fault("tellss 1", 0);
        fault("tellsz 1", 0);
        fault("atells 1", 0);
        fault("tell 1", 0);
        fault("hang 0 on 1", 0);
        fault("tells", 5);
        fault("tells  ", 7);
        fault("tells if", 6);
        fault("tells -1", 6);
        fault("tells 1 +", 9);
        fault("tells 1 + + 1", 10);
        fault("tells (1)", 6);
        fault("tells [1]", -1);
        fault("tells [1", 8);
        fault("tells [1)", 8);
        fault("tells []", 7);
        fault("tells done", 6);
        fault("tells knows 1", 12);
        fault("tells 1 2", 8);
        fault("tells 1;", 8);
        fault("tells 1;;", 8);
        fault(";", 0);
        fault("tells 1 times 2", 8);
        fault("bars", -1);
        fault("bars 1", 5);
        fault("bars if", 7);
        fault("bars if 1", 9);
        fault("bars if 1 < 2", -1);
        fault("bars if 1 <= 2", 11);
        fault("bars if 1 < 2 < 3", 14);
        fault("bars if not", 11);
        fault("bars if not not 1 = 2", -1);
        fault("bars if (1 = 2", 14);
        fault("bars if (1 = 2]", 14);
        fault("bars if ([1] = 2)", -1);
        fault("bars if [(1)] = 2", 9);
        fault("bars if (1) = 2", 10);
        fault("bars if 1 = 2 and", 17);
        fault("bars if 1 = 2 or or", 17);
        fault("bars if 1 = 2 and not (3 = 4 or 5 = 6)", -1);
        fault("bars if 1 = 2 if 3 = 4", 14);
        fault("weighs hat+kind+tall+knows+other+like+thought+hour+rain", -1);
        fault("weighs\n1", 6);
        fault("weighs 1\u00e9", 8);
        clauses();
        parts();
        brackets();
    }

    private static void clauses() {
        StringBuilder text = new StringBuilder("bars");
        for (int i = 1; i < 12; i++) {
            text.append(";bars");
        }
        fault(text.toString(), -1);
        fault(text + "; bars", 61);
        fault(text + ";", 60);
        orderFault("pass;pass;pass;pass;pass;pass;pass;pass;pass;pass;pass;pass", -1);
        orderFault("pass;pass;pass;pass;pass;pass;pass;pass;pass;pass;pass;pass;pass", 60);
    }

    private static void parts() {
        StringBuilder text = new StringBuilder("tells 1");
        for (int i = 1; i < 48; i++) {
            text.append("+1");
        }
        fault(text + " if hat = 1", -1);
        fault(text + " if hat = 1 + 1", text.length() + 14);
        fault(text + ";tells 1 ; tells 1", -1);
        fault(text + ";tells [[1]] ; tells 1 ; tells hour", text.length() + 31);
        StringBuilder orders = new StringBuilder("think peg 0");
        for (int i = 1; i < 49; i++) {
            orders.append("+hung");
        }
        orderFault(orders + " in knows 3 times 2", -1);
        orderFault(orders + " in knows 3 + peg 2 times 2", orders.length() + 14);
    }

    private static void brackets() {
        fault("tells [[[[[[[[1]]]]]]]]", -1);
        fault("tells [[[[[[[[[1]]]]]]]]]", 14);
        fault("bars if ((((([[[1]]]=1)))))", -1);
        fault("bars if ((((([[[[1]]]]=1)))))", 16);
        fault("bars if (((((((((1=1)))))))))", 16);
        fault("bars if ((((((((1=1)))))))) and [[[[[[[[1]]]]]]]] = 1", -1);
    }

    /** How many thoughts hat 0 (kind 1, 5 tall, knowing 0 and 1) tells hat 1 (kind 2, 3 tall) at hour 7, in rain 3. */
    private static void tells(String text, int due) {
        TruthHats x = toldHall();
        Due.due("11: law \"" + text + "\"", Due.law(x, text), 0);
        x.force(0);
        Due.due("11: it tells by \"" + text + "\"", x.two(0, 1, 0), due);
        x.force(-1);
        Due.due("34: compare() by \"" + text + "\"", x.compare(0, 0, 1), due);
    }

    private static TruthHats toldHall() {
        TruthHats x = new TruthHats();
        x.hat(1, 5);
        x.hat(2, 3);
        x.think(0, 0);
        x.think(0, 1);
        x.terms(0, 7);
        x.terms(2, 3);
        return x;
    }

    private static void lawAmounts() {
        tells("tells 8", 8);
        tells("tells 9", 8);
        tells("tells 0", 0);
        tells("tells 0 - 5", 0);
        tells("bars", 1);
        tells("tells 2; tells 3", 3);
        tells("tells 2; tells 3 if hat = 1", 2);
        tells("tells 4 if hat = 1", 1);
        tells("tells 1 + 2 * 3", 7);
        tells("tells [1 + 1] * 3", 6);
        tells("tells 9 - 3 - 2", 4);
        tells("tells 100 / 7 / 2", 7);
        tells("tells 17 % 5", 2);
        tells("tells 5 + [0 - 7] % 4", 2);
        tells("tells 5 + [0 - 7] / 2", 2);
        tells("tells 5 if 1 = 1 or 1 = 2 and 1 = 2", 5);
        tells("tells 5 if (1 = 1 or 1 = 2) and 1 = 2", 1);
        tells("tells 5 if 1 = 2 or 3 = 3", 5);
        tells("tells 5 if 1 = 2 or 3 = 4", 1);
        tells("tells 5 if 1 = 2 or 2 = 3 or 7 > 3", 5);
        tells("tells 5 if 1 = 2 or 2 = 3 or 7 < 3", 1);
        tells("tells 5 if 1 = 1 and 3 = 3", 5);
        tells("tells 5 if 1 = 1 and 3 = 4", 1);
        tells("tells 5 if 1 = 1 and 3 = 3 and 7 < 3", 1);
        tells("tells 5 if (1 = 2 or (3 = 3 and 4 = 4)) and (5 = 6 or not (7 = 8))", 5);
        tells("tells 5 if not 1 = 2 and 1 = 1", 5);
        tells("tells 5 if not not not 1 = 2", 5);
        tells("tells 5 if not (1 = 1 and 2 = 2)", 1);
        tells("tells 5 if 1 < 2 and 2 > 1", 5);
        tells("tells 5 if 2 < 2 or 2 > 2", 1);
        TruthHats x = toldHall();
        Due.law(x, "weighs 100; weighs 0 - 1 if thought = 1");
        x.force(0);
        Due.due("11: weights go from 0 to 99", x.of(0, 4), 99);
    }

    private static void lawWords() {
        tells("tells hat", 0);
        tells("tells kind", 1);
        tells("tells tall", 5);
        tells("tells knows", 2);
        tells("tells other", 1);
        tells("tells like", 2);
        tells("tells thought + 5", 4);
        tells("tells hour", 7);
        tells("tells rain", 3);
        TruthHats x = toldHall();
        Due.law(x, "bars if thought = like and other = 1 and tall = 5; weighs other * 10 + like + 50 + thought");
        x.force(0);
        Due.due("11: bars asks for the other", x.two(0, 1, 3), 1);
        Due.due("11: bars asks for the thought", x.two(0, 1, 2), 0);
        Due.due("11: weighs knows no other", x.of(0, 4), 39 + 40);
    }

    private static void lawBroken() {
        tells("tells 5; tells 1 / 0", 5);
        tells("tells 5; tells 1 % 0", 5);
        tells("tells 1 / 0; tells 5", 5);
        tells("tells 1 / 0", 1);
        tells("tells 5; tells 2 if 1 / 0 = 1", 5);
        tells("tells 5; tells 2 if not 1 / 0 = 1", 5);
        tells("tells 5; tells 2 if 1 = 1 or 1 / 0 = 1", 2);
        tells("tells 5; tells 2 if 1 / 0 = 1 or 1 = 1", 5);
        tells("tells 5; tells 2 if 1 = 2 and 1 / 0 = 1 or 1 = 1", 2);
        tells("tells 5; tells 2 if 1 = 1 and 1 / 0 = 1 or 1 = 1", 5);
        tells("tells 5; tells 2 if 1 = 1 or 1 = 1 and 1 / 0 = 1", 2);
        tells("tells 5; tells 2 + 0 * [1 / 0]", 5);
        tells("tells 5; tells 1000 * 1000 * 1000 / 1000 / 1000 / 500", 2);
        tells("tells 5; tells [1000 * 1000 * 1000 + 1] * 0", 5);
        tells("tells 5; tells [0 - 1000 * 1000 * 1000] * 0 + 3", 3);
        tells("tells 5; tells [0 - 1000 * 1000 * 1000 - 1] * 0 + 3", 5);
        tells("tells 5; tells 1000 * 1000 * 1000 * 1000 * 0", 5);
        TruthHats x = toldHall();
        Due.law(x, "bars if 1 / thought = 1; weighs 10 / thought");
        x.force(0);
        Due.due("11: a broken bars does not hold", x.two(0, 1, 1), 0);
        Due.due("11: one that is not broken does", x.two(0, 1, 2), 1);
        Due.due("11: a broken weight is 1", x.of(0, 4), 11);
    }

    private static void orders() {
        TruthHats x = new TruthHats();
        x.hat(0, 0);
        x.hat(0, 0);
        Due.put(x, "hang 0 on 3; hang 1 on 4 ;think 5 in 0;pass times 2; take 1 if knows 1 = 1");
        Due.fine(x, "12: orders()", () -> x.orders(), 6);
        Due.due("12: the tape is empty", x.count(6), 0);
        Due.due("14: stopped()", x.stopped(), -1);
        Due.due("13: fault()", x.fault(), -1);
        Due.due("12: hat 0 hangs", x.on(3), 0);
        Due.due("12: hat 1 was taken", x.of(1, 2), -1);
        Due.due("12: hat 1 was told", x.of(1, 3), 32);
        Due.due("12: hour", x.count(13), 2);
        Due.due("12: each can be undone", x.count(5), 6);
        Due.put(x, "pass if 1 = 2; take 0 if 1 / 0 = 1; think 0 in 9 times 20 if hung > 5");
        Due.fine(x, "12: none is run", () -> x.orders(), 0);
        Due.put(x, "hang done + 1 on 5 + done times 1");
        Due.fine(x, "12: from the left", () -> x.orders(), 1);
        Due.due("12: hat 1 on 5", x.on(5), 1);
    }

    private static void orderWords() {
        TruthHats x = new TruthHats();
        for (int i = 0; i < 3; i++) {
            x.hat(0, 0);
        }
        Due.due("12: done and times", Due.orders(x, "hang done on done * 2 times 3; think done - 3 in 1 times 8 if done < 6"), 6);
        Due.due("12: of(2, 2)", x.of(2, 2), 4);
        Due.due("12: of(1, 3)", x.of(1, 3), 7);
        Due.due("12: peg of one that is off, of none",
                Due.orders(x, "take 0; think peg 0 + 4 in hung; think 0 - peg 6 + 3 in 2; think knows 6 + 6 in 2"), 4);
        Due.due("12: of(2, 3)", x.of(2, 3), 8 + 16 + 32);
        Due.due("12: latest is -1 without a pass", Due.orders(x, "take 1 if latest = 0 - 1"), 1);
        Due.due("12: latest is what the latest pass told",
                Due.orders(x, "hang 1 on 3; pass; think 0 in 0 if latest = 2; pass times 2; think 1 in 0 if latest = 0;"
                        + "think 2 in 0 if latest = 2 or latest = 1"), 6);
        Due.due("12: of(0, 3)", x.of(0, 3), 5);
        Due.due("12: hour, knows", Due.orders(x, "think 7 in 0 if hour = 3 and knows 0 = 2 and peg 1 = 3"), 1);
        Due.due("12: peg6 is a word and its hat", Due.orders(x, "pass if peg6=knows 06-0"), 1);
    }

    private static void ordersThatStop() {
        stops("hang 1 on 8; pass; hang 1 on 1", 2);
        stops("hang 0 on 1", 0);
        stops("hang 1 on 9", 0);
        stops("hang 1 on 1; pass; hang 7 on 1", 2);
        stops("take 0; hang 1 on 10", 1);
        stops("think 1 in 0; think 1 in 0", 1);
        stops("think 1 in 1 times 2", 0);
        stops("take 1", 0);
        stops("pass; take 1 / 0", 1);
        stops("pass; think 1 in 1 % 0", 1);
        stops("pass; think 1 / 0 in 0", 1);
        stops("pass; hang 1 on 1000 * 1000 * 1000 + 1", 1);
        stops("pass times 4", 0);
        stops("pass times 20; take 9", 0);
        stops("pass if 1 = 2; pass times 3; hang 1 on 3; think 3 in 1; take 1; hang 0 on 1 - 2", 5);
        TruthHats x = new TruthHats();
        x.pass();
        Due.orders(x, "take 0");
        Due.due("14: stopped()", x.stopped(), 0);
        Due.put(x, "take");
        Due.refused(x, "12: orders that can't be read", () -> x.orders(), -6);
        Due.due("14: stopped() behind -6", x.stopped(), -1);
    }

    /** All is as it was ahead of orders that can't be. */
    private static void stops(String text, int clause) {
        TruthHats x = new TruthHats();
        x.hat(0, 0);
        x.hat(0, 0);
        x.terms(0, 996);
        x.hang(0, 9);
        x.think(0, 0);
        Due.put(x, text);
        Due.refused(x, "12: \"" + text + "\"", () -> x.orders(), -3);
        Due.due("14: stopped() of \"" + text + "\"", x.stopped(), clause);
        Due.due("13: fault() of \"" + text + "\"", x.fault(), -1);
        Due.due("12: hour", x.count(13), 996);
        Due.due("12: hung", x.count(1), 1);
        Due.due("12: on(9)", x.on(9), 0);
        Due.due("12: of(0, 3)", x.of(0, 3), 1);
        Due.due("12: of(1, 3)", x.of(1, 3), 0);
        Due.due("12: count(5)", x.count(5), 2);
        Due.due("12: undo()", x.undo(), 2);
        Due.due("12: undo()", x.undo(), 0);
        Due.due("12: undo()", x.undo(), -3);
        Due.due("12: the tape is empty", x.count(6), 0);
    }

    private static void orderFaults() {
        orderFault("pass", -1);
        orderFault("", 0);
        orderFault("   ", 3);
        orderFault("tells 1", 0);
        orderFault("pass 1", 5);
        orderFault("pass times 0", 11);
        orderFault("pass times 20", -1);
        orderFault("pass times 21", 11);
        orderFault("pass times hour", 11);
        orderFault("pass times", 10);
        orderFault("pass times 2 times 2", 13);
        orderFault("pass if 1 = 1 times 2", 14);
        orderFault("pass times 2 if 1 = 1", -1);
        orderFault("hang 0 in 1", 7);
        orderFault("hang 0", 6);
        orderFault("hang 0 on", 9);
        orderFault("hang on 1", 5);
        orderFault("think 0 on 1", 8);
        orderFault("take 0 on 1", 7);
        orderFault("take hat", 5);
        orderFault("take peg", 8);
        orderFault("take peg 6", -1);
        orderFault("take peg 7", 9);
        orderFault("take peg [1]", 9);
        orderFault("take knows hour", 11);
        orderFault("take knows 3 4", 13);
        orderFault("take peg0+knows1", -1);
        orderFault("pass; ; pass", 6);
    }

    private static void ordersUndone() {
        TruthHats x = new TruthHats();
        x.hat(0, 0);
        x.hang(0, 0);
        Due.due("12: 20 passes", Due.orders(x, "pass times 20"), 20);
        Due.due("20: 16 of them can be undone", x.count(5), 16);
        Due.due("12: orders that stop", Due.orders(x, "take 0; hang 0 on 5; pass times 20; take 1"), -3);
        for (int i = 0; i < 16; i++) {
            Due.due("20: undo() of a pass by orders", x.undo(), 3);
        }
        Due.due("20: hour", x.count(13), 4);
        Due.due("20: undo() with nothing left", x.undo(), -3);
    }

    /** What one text leaves open, long or broken must not come into the next one. */
    private static void manyTexts() {
        TruthHats x = new TruthHats();
        x.hat(0, 0);
        x.hat(0, 0);
        x.image(0);
        for (int i = 0; i < 12; i++) {
            Due.due("11: brackets are left open", Due.law(x, "bars if ((((([[[1"), -6);
            Due.due("12: orders that break", Due.orders(x, "hang 1 / 0 on 1 / 0 times 7 if 1 = 1 and 2 = 2"), -3);
            Due.due("12: orders behind them", Due.orders(x, "think 1 in 0; pass"), 2);
            Due.due("12: one that is taken", Due.orders(x, "hang 0 on 9; take 0; hang 0 on 8"), 3);
            Due.due("11: eight brackets", Due.law(x, "tells [[[[[[[[" + i + "]]]]]]]] % 9 if 0 = 0"), 0);
            Due.due("11: what it tells", x.compare(0, 0, 1), Math.min(i % 9, 8));
            Due.due("11: a law of many parts",
                    Due.law(x, "weighs 1+1+1+1+1+1+1+1+1+1+1+1+1+1+1+1+1+1+1+1+1+1+1+1+1+1+1+1+1+1+1+1+1+1+1+1+1"), 1);
            Due.due("15: force(1)", x.force(1), -1);
            Due.due("11: what a thought weighs", x.of(0, 4), 37);
            x.back(0);
        }
        Due.due("12: a clause with two sums", Due.orders(x, "hang 0 on 1 + 1 + 1"), 1);
        Due.due("12: a clause with one in its place", Due.orders(x, "take 0; pass if 1 / 0 = 1"), 1);
        Due.due("12: a clause with none in its place", Due.orders(x, "pass; pass if 1 / 0 = 1"), 1);
    }

    private static void fault() {
        TruthHats x = new TruthHats();
        Due.law(x, "bars 1");
        Due.due("13: of a law", x.fault(), 5);
        Due.orders(x, "pass 12");
        Due.due("13: of orders", x.fault(), 5);
        Due.law(x, "bars;x");
        Due.due("13: of the next law", x.fault(), 5);
        Due.orders(x, "take 0");
        Due.due("13: none of orders that were read", x.fault(), -1);
    }

    private static void force() {
        TruthHats x = new TruthHats();
        x.pass();
        Due.refused(x, "15: force(0) without laws", () -> x.force(0), -2);
        Due.law(x, "tells 3");
        Due.law(x, "tells 4");
        Due.due("15: a law is not in force by itself", x.count(12), -1);
        Due.fine(x, "15: force(1)", () -> x.force(1), -1);
        Due.fine(x, "15: force(0)", () -> x.force(0), 1);
        Due.refused(x, "15: force(2)", () -> x.force(2), -2);
        Due.refused(x, "15: force(-2)", () -> x.force(-2), -2);
        Due.due("15: count(12)", x.count(12), 0);
        Due.fine(x, "15: force(-1)", () -> x.force(-1), 0);
        Due.due("15: count(12) then", x.count(12), -1);
        Due.due("15: it leaves what can be undone", x.count(5), 1);
    }
}
