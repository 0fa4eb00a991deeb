import java.util.ArrayList;
import java.util.List;

/** Term II, what both languages share, and promises 7, 8, 11 to 14: the tape, tokens, what a text may have, FAULT. */
public final class TextEdgeTest {
    private static final String BILLION = "1000*1000*1000";

    public static void main(String[] args) {
        atMostFourHundredBytes();
        theTapeIsEmptyThen();
        fourOfEachNumberTheHighestFirst();
        firstBytesAlone();
        whatWasCutAwayIsNoToken();
        textsOfFourHundredBytes();
        longestRowsOfLetters();
        longestRowsOfDigits();
        singleOtherBytes();
        anyBlanksBetween();
        twelveClauses();
        clausesAtTheirEdges();
        numbersToAThousand();
        fiftyParts();
        fiftyPartsOfAText();
        whatCountsAsAPart();
        eightBrackets();
        bracketsBesideOneAnother();
        nothingIsLeftOfAnEarlierText();
        faultIsTheFirstToken();
        faultAtTheEnd();
        blanksAlone();
        faultOfTheLatest();
        stepsBeyondABillion();
        stepsOnTheWay();
        stepsFromTheLeft();
        dividedByNothing();
        cutTowardsZero();
        orAndAndAsk();
        notAndComparisons();
        brokenParts();
        Due.end("TextEdgeTest");
    }

    /** What is at fault in a law: NONE, if it can be. */
    private static void law(String text, int fault) {
        TruthHats x = new TruthHats();
        Due.put(x, text);
        if (fault == TruthHats.NONE) {
            Due.fine(x, "11: law \"" + text + "\"", () -> x.law(), 0);
        } else {
            Due.refused(x, "11: law \"" + text + "\"", () -> x.law(), -6);
        }
        Due.due("13: fault() of law \"" + text + "\"", x.fault(), fault);
        Due.due("11: LAWS behind \"" + text + "\"", x.count(4), fault == TruthHats.NONE ? 1 : 0);
        Due.due("11: the TAPE behind \"" + text + "\"", x.count(6), 0);
    }

    /** What is at fault in orders: NONE, if they can be read. */
    private static void orders(String text, int fault) {
        TruthHats x = Halls.line(7, 0, 0);
        Due.put(x, text);
        boolean isRead = x.orders() != -6;
        Due.due("12: orders \"" + text + "\" are read", isRead ? 1 : 0, fault == TruthHats.NONE ? 1 : 0);
        Due.due("13: fault() of orders \"" + text + "\"", x.fault(), fault);
        Due.due("12: the TAPE behind \"" + text + "\"", x.count(6), 0);
    }

    private static String repeated(String first, String more, int times) {
        StringBuilder text = new StringBuilder(first);
        for (int i = 0; i < times; i++) {
            text.append(more);
        }
        return text.toString();
    }

    /** II: "a TAPE of at most 400 bytes"; promise 7: "how many it has. NONE, if there would be more than 400." */
    private static void atMostFourHundredBytes() {
        for (int n = 360; n <= 400; n++) {
            TruthHats x = new TruthHats();
            for (int i = 1; i <= 20; i++) {
                Due.due("7: feed() number " + i, x.feed(-1, -1, -1, -1, -1), 20 * i);
            }
            Due.due("8: end(" + n + ")", x.end(n), n);
            Due.due("7: feed() behind " + n, x.feed(0, 0, 0, 0, 0), n <= 380 ? n + 20 : -1);
            Due.due("39: bytes of the TAPE", x.count(6), n <= 380 ? n + 20 : n);
            Due.due("40: status() is not feed's", x.status(), 0);
        }
    }

    /** Promises 9, 11, 12: "the TAPE is empty then", whether it was REFUSED or not. */
    private static void theTapeIsEmptyThen() {
        TruthHats x = new TruthHats();
        for (String text : new String[] {"bars", "bar", "x", "   "}) {
            Due.put(x, text);
            x.law();
            Due.due("11: the TAPE behind law() of \"" + text + "\"", x.count(6), 0);
            Due.put(x, text);
            x.orders();
            Due.due("12: the TAPE behind orders() of \"" + text + "\"", x.count(6), 0);
            Due.put(x, text);
            x.row();
            Due.due("9: the TAPE behind row() of \"" + text + "\"", x.count(6), 0);
        }
        Due.orders(x, "pass; take 0");
        Due.due("12: the TAPE behind orders that could not be", x.count(6), 0);
        Due.due("7: it begins anew", x.feed(0, 0, 0, 0, 0), 20);
    }

    /** Promise 7: "Twenty bytes come behind the TAPE, four of each number, the highest first". */
    private static void fourOfEachNumberTheHighestFirst() {
        TruthHats x = new TruthHats();
        Due.due("7: feed()", x.feed(0x00018003, 0x09FF0100, 0x7F020801, 0x00000003, 0x02100101), 20);
        Due.fine(x, "9: row()", () -> x.row(), 6);
        Due.due("10: the two bytes that are left", x.caps(), 1);
        int[][] due = {{0, 1, 128}, {3, 9, 255}, {1, 0, 127}, {2, 8, 1}, {0, 0, 0}, {3, 2, 16}};
        for (int hat = 0; hat < due.length; hat++) {
            Due.due("7: of(" + hat + ", 0)", x.of(hat, 0), due[hat][0]);
            Due.due("7: of(" + hat + ", 1)", x.of(hat, 1), due[hat][1]);
            Due.due("7: of(" + hat + ", 3)", x.of(hat, 3), due[hat][2]);
        }
        TruthHats y = new TruthHats();
        y.feed(0x00010000, Integer.MIN_VALUE, Integer.MAX_VALUE, -1, 0);
        y.feed(0x00020000, 0, 0, 0, 0);
        y.end(24);
        Due.due("9: row() of the least and the greatest numbers", y.row(), 4);
        Due.due("10: caps()", y.caps(), 4);
        Due.due("7: of(1, 3), by the least number's last bytes and the greatest one's first", y.of(1, 3), 127);
        Due.due("7: of(2, 0), by the last bytes of twenty and the first of the next", y.of(2, 0), 0);
        Due.due("7: of(3, 0), by the next ones", y.of(3, 0), 2);
    }

    /** Promise 8: "The TAPE has its first n bytes alone: n. NONE, if it has not so many, or n is below 0." */
    private static void firstBytesAlone() {
        TruthHats x = new TruthHats();
        Due.due("8: end(0) of none", x.end(0), 0);
        Due.due("8: end(1) of none", x.end(1), -1);
        x.feed('b' << 24 | 'a' << 16 | 'r' << 8 | 's', ';' << 24, 0, 0, 0);
        Due.due("8: end(21) of twenty", x.end(21), -1);
        Due.due("8: end(20) of twenty", x.end(20), 20);
        Due.due("8: end(-1)", x.end(-1), -1);
        Due.due("39: bytes of the TAPE", x.count(6), 20);
        Due.due("8: end(4)", x.end(4), 4);
        Due.due("8: end(5) of four", x.end(5), -1);
        Due.due("11: the first four bytes are a LAW", x.law(), 0);
        x.feed('p' << 24 | 'a' << 16 | 's' << 8 | 's', 0, 0, 0, 0);
        x.end(2);
        x.feed(' ' << 24, 0, 0, 0, 0);
        x.end(3);
        Due.due("12: what was cut away is gone", x.orders(), -6);
        Due.due("13: fault()", x.fault(), 0);
    }

    /** What is at fault in a law of which the first n bytes alone are left; NONE, if it can be. */
    private static void cutLaw(String text, int n, int fault) {
        TruthHats x = new TruthHats();
        Due.put(x, text);
        Due.due("8: end(" + n + ") of \"" + text + "\"", x.end(n), n);
        Due.due("11: law \"" + text + "\" cut to " + n, x.law(), fault == TruthHats.NONE ? 0 : -6);
        Due.due("13: fault() of \"" + text + "\" cut to " + n, x.fault(), fault);
    }

    private static void cutOrders(String text, int n, int fault) {
        TruthHats x = Halls.line(7, 0, 0);
        Due.put(x, text);
        Due.due("8: end(" + n + ") of \"" + text + "\"", x.end(n), n);
        boolean isRead = x.orders() != -6;
        Due.due("12: orders \"" + text + "\" cut to " + n, isRead ? 1 : 0, fault == TruthHats.NONE ? 1 : 0);
        Due.due("13: fault() of \"" + text + "\" cut to " + n, x.fault(), fault);
    }

    /** Promise 8: "its first n bytes alone": no TOKEN begins or goes on in what was cut away. */
    private static void whatWasCutAwayIsNoToken() {
        String law = "tells 12+3 if hat=1;bars";
        int[] faults = {0, 0, 0, 0, 0, 5, 6, -1, -1, 9, -1, -1, 11, 13, 14, 14, 14, 17, 18, -1, 20, 20, 20, 20, -1};
        for (int n = 0; n <= law.length(); n++) {
            cutLaw(law, n, faults[n]);
        }
        String orders = "pass times 20;take peg 3";
        int[] places = {0, 0, 0, 0, -1, -1, 5, 5, 5, 5, 10, 11, -1, -1, 14, 14, 14, 14, 18, 19, 19, 19, 22, 23, -1};
        for (int n = 0; n <= orders.length(); n++) {
            cutOrders(orders, n, places[n]);
        }
        cutLaw("tells 1000", 9, -1);
        cutLaw("tells 10000", 10, -1);
        cutLaw("barsx", 4, -1);
        cutLaw("bars if (1=1)", 12, 12);
        cutLaw("bars if [1]=1", 10, 10);
    }

    /** II: "a TAPE of at most 400 bytes": texts that go to its last byte. */
    private static void textsOfFourHundredBytes() {
        String blanks = " ".repeat(400);
        law((blanks + "bars").substring(4), -1);
        law(("bars" + blanks).substring(0, 400), -1);
        law(("bars;" + blanks).substring(0, 400), 400);
        law(("bars" + blanks).substring(0, 399) + ";", 400);
        law(("bars" + blanks).substring(0, 399) + "1", 399);
        law("b".repeat(400), 0);
        law("tells " + "0".repeat(393) + "7", -1);
        law("tells " + "0".repeat(391) + "100", -1);
        law("tells " + "9".repeat(394), 6);
        law("(".repeat(400), 0);
        law("bars if " + "not ".repeat(96) + "1=1  if", 397);
        law("bars if " + "not ".repeat(97) + "1=1 ", -1);
        law("bars if " + "not ".repeat(98), 400);
        law("bars if " + "not ".repeat(97) + "((((", 400);
        orders(("pass" + blanks).substring(0, 400), -1);
        orders((blanks + "pass").substring(4), -1);
        orders("p".repeat(400), 0);
        orders("take " + "0".repeat(395), -1);
        orders("pass times " + "0".repeat(387) + "20", -1);
        orders("pass times " + "0".repeat(387) + "21", 11);
        orders("take peg " + "0".repeat(390) + "6", -1);
        orders("take peg " + "0".repeat(390) + "7", 9);
    }

    /** II: "TOKENS: longest rows of letters a .. z": no capitals, and not the bytes ahead of a and behind z. */
    private static void longestRowsOfLetters() {
        law("bars", -1);
        law("barsz", 0);
        law("barsa", 0);
        law("zbars", 0);
        law("bar s", 0);
        law("BARS", 0);
        law("Bars", 0);
        law("barS", 0);
        law("bars`", 4);
        law("bars{", 4);
        law("barsA", 4);
        law("barsZ", 4);
        law("barsif 1=1", 0);
        law("bars if1=1", -1);
        law("bars ifhat=1", 5);
        law("bars if hat=1or1=1", -1);
        law("bars if hat=kindor 1=1", 12);
        law("tells hatkind", 6);
        law("tells hat kind", 10);
        law("tells ha", 6);
        law("tells hats", 6);
        orders("pass", -1);
        orders("passif1=1", 0);
        orders("pass if1=1", -1);
        orders("takeknows 1", 0);
        orders("hang 3 on9", -1);
        orders("hang 3on 9", -1);
        orders("hang 3 onpeg 0", 7);
        orders("think 1in 1", -1);
        orders("pass times2", -1);
        orders("pass timesx", 5);
    }

    /** II: "TOKENS: longest rows .. of digits": 0 and 9 are digits, the bytes ahead of 0 and behind 9 are not. */
    private static void longestRowsOfDigits() {
        law("tells 0123", -1);
        law("tells 1 0", 8);
        law("tells 0909", -1);
        law("tells 1:", 7);
        law("tells 1/", 8);
        law("tells 1/1", -1);
        law("tells 1:1", 7);
        law("tells1", -1);
        law("tells 1if 1=1", -1);
        law("tells 1a", 7);
        law("tells 1.5", 7);
        orders("take 1 2", 7);
        orders("take 12", -1);
        orders("pass times 2 0", 13);
        orders("pass times 20", -1);
        orders("take peg1", -1);
        orders("take peg 1 1", 11);
        orders("take peg 11", 9);
    }

    /** II: "single other bytes": two of them are two TOKENS; each of the 256 bytes where it can't go on. */
    private static void singleOtherBytes() {
        law("bars if 1 >= 2", 11);
        law("bars if 1 == 2", 11);
        law("bars if [[1]]=[[2]]", -1);
        law("bars if ((1=2))", -1);
        law("tells 1;;bars", 8);
        law("tells [0-1]*[0-2]", -1);
        law("tells --1", 6);
        for (int b = 0; b < 256; b++) {
            byte[] bytes = {'b', 'a', 'r', 's', (byte) b, '1', '=', '1'};
            boolean isLetter = b >= 'a' && b <= 'z';
            TruthHats x = new TruthHats();
            Due.putBytes(x, bytes);
            Due.due("11: law \"bars\", byte " + b + ", \"1=1\"", x.law(), -6);
            Due.due("13: fault() of it", x.fault(), isLetter ? 0 : b == ' ' || b == ';' ? 5 : 4);
            Due.putBytes(x, new byte[] {'p', 'a', 's', 's', (byte) b});
            boolean isBlank = b == ' ';
            Due.due("12: orders \"pass\", byte " + b, x.orders(), isBlank ? 1 : -6);
            Due.due("13: fault() of them", x.fault(), isBlank ? -1 : isLetter ? 0 : b == ';' ? 5 : 4);
        }
    }

    /** II: "any blanks (32) between": none, one, many, ahead and behind; no other byte is a blank. */
    private static void anyBlanksBetween() {
        law("tells[1+2]*3if(1<2)and not[2]>3;bars", -1);
        law("   tells   [  1  +  2  ]   *   3   if   (  1  <  2  )   ;   bars   ", -1);
        law("tells\t1", 5);
        law("tells\n1", 5);
        law("tells 1\u00a0", 7);
        law("tells\u00001", 5);
        law("tells\u001f1", 5);
        law("tells!1", 5);
        orders("  hang  3  on  9  times  1  if  1  =  1  ;  pass  ", -1);
        orders("hang3on9times1if1=1;pass", -1);
        orders("pass\r", 4);
    }

    /** II: "CLAUSE {";" CLAUSE}, 12 at most (FAULT at the 13th's first TOKEN)". */
    private static void twelveClauses() {
        for (int n = 1; n <= 14; n++) {
            law(repeated("bars", ";bars", n - 1), n <= 12 ? -1 : 60);
            orders(repeated("pass", " ; pass", n - 1), n <= 12 ? -1 : 84);
        }
        String twelve = repeated("bars", ";bars", 11);
        law(twelve + ";   bars", 63);
        law(twelve + ";", 60);
        law(twelve + ";  ", 62);
        law(twelve + ";;", 60);
        law(twelve + ";1", 60);
        law(twelve + " bars", 60);
        String orders = repeated("pass", ";pass", 11);
        orders(orders + ";  take 0", 62);
        orders(orders + ";", 60);
        orders(orders + "; ?", 61);
        orders(orders + " times 20 if 1 = 1", -1);
        law(repeated("tells 1 if 1 = 1", ";tells 1 if 1 = 1", 11), -1);
    }

    /** II: "CLAUSE {";" CLAUSE}": at least one, none of them empty. */
    private static void clausesAtTheirEdges() {
        law("", 0);
        law(";", 0);
        law("bars;", 5);
        law(";bars", 0);
        law("bars;;bars", 5);
        law("bars; ;bars", 6);
        law("bars bars", 5);
        law("bars tells 1", 5);
        law("pass", 0);
        law("tells 1 times 1", 8);
        law("bars times 1", 5);
        orders("", 0);
        orders(";", 0);
        orders("pass;", 5);
        orders(";pass", 0);
        orders("pass;;pass", 5);
        orders("pass pass", 5);
        orders("bars", 0);
        orders("weighs 1", 0);
    }

    /** II: "NUMBER (to 1,000)": a greater one can't go on. */
    private static void numbersToAThousand() {
        law("tells 0", -1);
        law("tells 1000", -1);
        law("tells 1001", 6);
        law("tells 10000", 6);
        law("tells 4294967296", 6);
        law("tells 4294967297", 6);
        law("tells 18446744073709551616", 6);
        law("tells 18446744073709551617", 6);
        law("tells 1 + 1001", 10);
        law("bars if [1001] = 1", 9);
        law("tells 1001 1001", 6);
        orders("take 1000", -1);
        orders("take 1001", 5);
        orders("hang 1001 on 0", 5);
        orders("hang 0 on 1001", 10);
        orders("think 1000 in 1001", 14);
        orders("pass if 1000 = 1001", 15);
        orders("take 2147483648", 5);
    }

    /** II: "50 PARTS that are NUMBERS and words (FAULT at the 51st)", of one SUM. */
    private static void fiftyParts() {
        for (int n = 48; n <= 52; n++) {
            law(repeated("tells 1", "+1", n - 1), n <= 50 ? -1 : 106);
            law(repeated("tells hat", "-hat", n - 1), n <= 50 ? -1 : 206);
            orders(repeated("take 1", "*1", n - 1), n <= 50 ? -1 : 105);
            orders(repeated("take peg 0", "+peg 0", n - 1), n <= 50 ? -1 : 305);
        }
        String fifty = repeated("tells 1", "+1", 49);
        law(fifty + "+", 106);
        law(fifty + "+[1", 107);
        law(fifty + "+[", 107);
        law(fifty + "+)", 106);
        law(fifty + "+ 1001", 107);
        law(fifty + " 1", 106);
        law(fifty + "+[[1]]", 108);
        String orders = repeated("take 1", "*1", 49);
        orders(orders + "*knows 0", 105);
        orders(orders + "*knows 7", 105);
        orders(orders + "*x", 105);
    }

    /** II: "50 PARTS .. at most" of a TEXT: of all its SUMS and TESTS, of all its CLAUSES together. */
    private static void fiftyPartsOfAText() {
        String law = repeated("tells 1", "+1", 47) + ";bars";
        law(law + " if 1=1", -1);
        law(law + " if 1=1 or 1=1", law.length() + 11);
        law(law + " if 1=1;tells 1", law.length() + 14);
        law(law + ";tells 1;weighs hat", -1);
        law(law + ";tells 1;weighs hat;weighs 1", law.length() + 27);
        law(law + " if 1=1+1", law.length() + 8);
        law(law + " if 1=1;bars;bars", -1);
        String orders = repeated("hang 1", "+1", 47) + " on 9";
        orders(orders + ";take 5", -1);
        orders(orders + ";take 5;take 6", orders.length() + 13);
        orders(orders + " if 1=1", orders.length() + 6);
        orders(orders + ";take 5;pass", -1);
    }

    /** II: "H, TIMES aside, NUMBERS and words count as PARTS": a "peg" with its H is one, TIMES are none. */
    private static void whatCountsAsAPart() {
        String parts = repeated("take peg 3", "-hung", 47) + "-knows 2";
        orders(parts + "+1", -1);
        orders(parts + "+1 times 20", -1);
        orders(parts + "+peg 6 times 20;pass times 20", -1);
        orders(parts + "+1+1", parts.length() + 3);
        orders(parts + "+1;pass if 1=1", parts.length() + 11);
        String ahead = "pass times 20;take peg 0 times 3;take knows 6 times 1;";
        String fifty = ahead + repeated("take 1", "*1", 47);
        orders(fifty, -1);
        orders(fifty + " times 20", -1);
        orders(fifty + "*1", fifty.length() + 1);
        orders(fifty + "*peg 0", fifty.length() + 1);
        String law = repeated("tells [1]", "+[1]", 48);
        law(law + " + [[[1]]]", -1);
        law(law + " + [[[1]]] + [1]", law.length() + 14);
        law("tells 1 if " + "not ".repeat(60) + repeated("1=1", " or 1=1", 6) + " and (((1=1)))", -1);
    }

    /** II: "8 brackets of both kinds within one another (FAULT at the 9th) at most". */
    private static void eightBrackets() {
        for (int n = 0; n <= 10; n++) {
            law("tells " + "[".repeat(n) + "1" + "]".repeat(n), n <= 8 ? -1 : 14);
            law("bars if " + "(".repeat(n) + "1=1" + ")".repeat(n), n <= 8 ? -1 : 16);
            orders("take " + "[".repeat(n) + "1" + "]".repeat(n), n <= 8 ? -1 : 13);
            for (int m = 0; m <= 10; m++) {
                String text = "(".repeat(n) + "1=" + "[".repeat(m) + "1" + "]".repeat(m) + ")".repeat(n);
                int fault = n > 8 ? 16 : n + m > 8 ? 18 : -1;
                law("bars if " + text, fault);
                orders("pass if " + text, fault);
            }
        }
        law("tells [[[[[[[[ [", 15);
        law("tells [[[[[[[[", 14);
        law("tells [[[[[[[[ 1]]]]]]]", 23);
        law("tells [[[[[[[[1]]]]]]]]]", 23);
        law("bars if (((((((( (1=1)", 17);
    }

    /** II: brackets "within one another": those that are closed again do not count. */
    private static void bracketsBesideOneAnother() {
        String eight = "[[[[[[[[1]]]]]]]]";
        law("tells " + repeated(eight, "+" + eight, 8), -1);
        law("tells " + eight + ";weighs " + eight + ";bars if " + eight + "=" + eight, -1);
        law("bars if ((((((((1=1)))))))) and ((((((((1=1)))))))) or not ((((((((1=1))))))))", -1);
        law("bars if ((((([1]=1) or 1=[[[[1]]]]))))", -1);
        law("bars if ((((([1]=1) or 1=[[[[[1]]]]]))))", 29);
        law("bars if ((1=1) and (((((((1=1))))))))", -1);
        law("bars if ((1=1) and ((((((((1=1)))))))))", 26);
        orders("hang " + eight + " on " + eight + ";take " + eight, -1);
        orders("pass if " + eight + "=1;think " + eight + " in [" + eight + "]", 63);
    }

    /** II: clauses, parts and brackets "at most" are those of one TEXT: no earlier one counts. */
    private static void nothingIsLeftOfAnEarlierText() {
        TruthHats x = Halls.hats(2);
        x.image(0);
        String fifty = repeated("tells 1", "+1", 49);
        String twelve = repeated("pass if 1=2", ";pass if 1=2", 11);
        for (int i = 0; i < 10; i++) {
            Due.due("11: brackets that stay open", Due.law(x, "bars if ((((([[["), -6);
            Due.due("11: eight brackets", Due.law(x, "tells [[[[[[[[" + i + "]]]]]]]]"), 0);
            Due.due("34: what it tells", x.compare(0, 0, 1), Math.min(i, 8));
            Due.due("11: fifty parts", Due.law(x, fifty + "-42"), -6);
            Due.due("11: fifty parts that can be", Due.law(x, fifty), 1);
            Due.due("34: what they tell", x.compare(1, 0, 1), 8);
            Due.due("12: twelve clauses", Due.orders(x, twelve), 0);
            Due.due("12: one clause", Due.orders(x, "pass"), 1);
            Due.due("38: back(0)", x.back(0), 0);
        }
    }

    /** II: "FAULT: the first TOKEN that can't go on there", however much is at fault behind it. */
    private static void faultIsTheFirstToken() {
        law("bars if 1 + if 2 +", 12);
        law("tells ? ?", 6);
        law("bars if 1", 9);
        law("bars if 1;", 9);
        law("bars if 1 and 2", 10);
        law("bars if (1)", 10);
        law("bars if (1=1", 12);
        law("bars if (1=1]", 12);
        law("bars if [1=1]", 10);
        law("bars if ([1=1)", 11);
        law("bars if )", 8);
        law("bars if or 1=1", 8);
        law("bars if 1=1 or and 1=1", 15);
        law("bars if not", 11);
        law("bars if 1 not = 1", 10);
        law("tells not 1", 6);
        law("tells (1)", 6);
        law("tells 1 < 2", 8);
        law("tells 1)", 7);
        law("tells ]", 6);
        law("tells 1 %% 2", 9);
        law("tells hour 3", 11);
        law("tells peg 1", 6);
        law("tells done", 6);
        law("weighs", 6);
        law("if 1=1", 0);
        orders("hang 0", 6);
        orders("hang 0 on", 9);
        orders("hang 0 on 1 on 1", 12);
        orders("hang 0 in 1", 7);
        orders("hang 0 1", 7);
        orders("hang 0 [1]", 7);
        orders("hang 0 peg 1", 7);
        orders("hang 0 times 1", 7);
        orders("think 0 1", 8);
        orders("think 0 hung", 8);
        orders("think 0;pass", 7);
        orders("think 0 on 1", 8);
        orders("think 0 in", 10);
        orders("take", 4);
        orders("take tall", 5);
        orders("take kind", 5);
        orders("take peg", 8);
        orders("take peg peg 1", 9);
        orders("take peg [0]", 9);
        orders("take peg -1", 9);
        orders("pass 1", 5);
        orders("pass times", 10);
        orders("pass times [2]", 11);
        orders("pass times 2+1", 12);
        orders("pass if 1=1 times 2", 12);
        orders("pass times 2 times 2", 13);
        orders("pass if", 7);
        orders("pass if 1=1 if 1=1", 12);
    }

    /** II: "(the end's: the TEXT's length)", with its blanks. */
    private static void faultAtTheEnd() {
        for (int blanks = 0; blanks < 4; blanks++) {
            String end = " ".repeat(blanks);
            law("tells" + end, 5 + blanks);
            law("tells 1+" + end, 8 + blanks);
            law("tells [1" + end, 8 + blanks);
            law("bars if 1=1 or" + end, 14 + blanks);
            law("bars if (1=1" + end, 12 + blanks);
            law("bars;" + end, 5 + blanks);
            orders("take" + end, 4 + blanks);
            orders("hang 0 on" + end, 9 + blanks);
            orders("pass times" + end, 10 + blanks);
            orders("take peg" + end, 8 + blanks);
            orders("pass;" + end, 5 + blanks);
        }
    }

    /** Promises 11, 12: "-6 (blanks alone: FAULT at the end)", and of an empty TAPE. */
    private static void blanksAlone() {
        for (int n : new int[] {0, 1, 2, 19, 20, 21, 399, 400}) {
            law(" ".repeat(n), n);
            orders(" ".repeat(n), n);
        }
    }

    /** Promise 13: "FAULT of the latest law(), orders() that read a TEXT: its place; NONE without." */
    private static void faultOfTheLatest() {
        TruthHats x = new TruthHats();
        Due.law(x, "tells");
        Due.due("13: of a law()", x.fault(), 5);
        x.row();
        x.image(0);
        x.back(0);
        Due.due("13: behind others", x.fault(), 5);
        Due.orders(x, "pass x");
        Due.due("13: of orders()", x.fault(), 5);
        Due.orders(x, "take 0");
        Due.due("13: NONE of orders that could be read, but not run", x.fault(), -1);
        Due.law(x, "x");
        Due.due("13: of a law() at its first byte", x.fault(), 0);
        for (int i = 0; i < 6; i++) {
            Due.law(x, "bars");
        }
        Due.due("13: NONE of one that is a LAW", x.fault(), -1);
        Due.orders(x, "pass times 99");
        Due.law(x, "bars");
        Due.due("13: a law() by -5 reads no TEXT", x.fault(), 11);
        Due.law(x, "x");
        Due.due("13: one by -5 that is at fault, neither", x.fault(), 11);
        Due.orders(x, "pass");
        Due.due("13: NONE of orders that were run", x.fault(), -1);
    }

    /** Whether a TEST is so (1), is not (0), or is BROKEN (-1), in both languages. */
    private static void test(String test, int due) {
        TruthHats x = Halls.hats(2);
        Due.law(x, "tells 2 if " + test + ";tells 3 if not (" + test + ")");
        int told = x.compare(0, 0, 1);
        Due.due("II: a law's test " + test, told == 2 ? 1 : told == 3 ? 0 : -1, due);
        int run = Due.orders(x, "pass if " + test);
        int runIfNot = Due.orders(x, "pass if not (" + test + ")");
        Due.due("II: an order's test " + test, run == 1 ? 1 : runIfNot == 1 ? 0 : -1, due);
        Due.due("II: it is not so and its opposite " + test, run * runIfNot, 0);
    }

    private static void sum(String sum, int due) {
        String shown = due < 0 ? "0-" + -due : Integer.toString(due);
        test(sum + "=" + shown, 1);
        test(sum + ">" + shown, 0);
        test(sum + "<" + shown, 0);
    }

    private static void broken(String sum) {
        test(sum + "=0", -1);
        test("0<" + sum, -1);
    }

    /** II: "If a step of it goes beyond 1,000,000,000 either way": the billion itself does not, by + - * /. */
    private static void stepsBeyondABillion() {
        String below = "[0-" + BILLION + "]";
        test(BILLION + "=1000*1000*1000", 1);
        test(BILLION + "+0=1000*1000*1000", 1);
        broken(BILLION + "+1");
        broken(BILLION + "-[0-1]");
        test(below + "<0", 1);
        test(below + "+0<0", 1);
        test(below + "-0<0", 1);
        broken(below + "-1");
        broken(below + "+[0-1]");
        test(BILLION + "*1>0", 1);
        broken(BILLION + "*2");
        broken("2*[" + BILLION + "]");
        test(below + "*1<0", 1);
        test(below + "*[0-1]>0", 1);
        broken(below + "*2");
        broken("[0-2]*[" + BILLION + "]");
        broken("[1000*1000+1]*1000");
        test("[1000*1000-1]*1000>0", 1);
        broken("[" + BILLION + "]*[" + BILLION + "]");
        broken("[" + BILLION + "]*[" + BILLION + "]*0");
        broken(below + "*[" + BILLION + "]");
        test(below + "/[0-1]=1000*1000*1000", 1);
        test("[" + BILLION + "]/1=1000*1000*1000", 1);
        test("[" + BILLION + "]%1000=0", 1);
        test("[" + BILLION + "-1]%[" + BILLION + "]=1000*1000*1000-1", 1);
    }

    /** II: "a step of it": one on the way, too, though the whole is small again. */
    private static void stepsOnTheWay() {
        broken(BILLION + "+1-1");
        test(BILLION + "-1+1>0", 1);
        broken("0*[" + BILLION + "+1]");
        broken("[" + BILLION + "+" + BILLION + "]/1000");
        test("[" + BILLION + "]/1000+[" + BILLION + "]/1000=2*1000*1000", 1);
        test(BILLION + ">0-" + BILLION, 1);
        test("0-" + BILLION + "<" + BILLION, 1);
    }

    /** II: "SUM: TERM {("+" | "-") TERM}. TERM: PART {("*" | "/" | "%") PART}": one step behind another, terms first. */
    private static void stepsFromTheLeft() {
        sum("9-3-2", 4);
        sum("9-3+2", 8);
        sum("9+3-2", 10);
        sum("8/2*4", 16);
        sum("8*2/4", 4);
        sum("100/7/3", 4);
        sum("100/7%3", 2);
        sum("100%7/2", 1);
        sum("2*7%4", 2);
        sum("7%4*2", 6);
        sum("100%30%4", 2);
        sum("2+3*4", 14);
        sum("2*3+4", 10);
        sum("20-7%4", 17);
        sum("20-8/4*2-1", 15);
        sum("1-2*3%4-5/2", -3);
        sum("[2+3]*4", 20);
        sum("20-[7-4]", 17);
        sum("20/[8/4]", 10);
        sum("7%[4*2]", 7);
        sum("[[1+2]*[3-5]-[4]]*2", -20);
    }

    /** II: "or divides by 0": by / and by %, 0 as well. */
    private static void dividedByNothing() {
        broken("1/0");
        broken("1%0");
        broken("0/0");
        broken("0%0");
        broken("[0-1]/[1-1]");
        broken("5%[2-2]");
        broken("0*[1/0]");
        sum("0/1", 0);
        sum("0%1", 0);
        sum("0/[0-3]", 0);
        sum("0%[0-3]", 0);
    }

    /** II: "(/ cut towards 0, % what is left then)", of all signs. */
    private static void cutTowardsZero() {
        for (int a = -7; a <= 7; a += 7) {
            for (int b = -3; b <= 3; b++) {
                String text = "[" + (a < 0 ? "0-" + -a : a) + "]";
                String by = "[" + (b < 0 ? "0-" + -b : b) + "]";
                if (b == 0) {
                    broken(text + "/" + by);
                    broken(text + "%" + by);
                } else {
                    int sign = Integer.signum(a) * Integer.signum(b);
                    int quotient = sign * Math.floorDiv(Math.abs(a), Math.abs(b));
                    sum(text + "/" + by, quotient);
                    sum(text + "%" + by, a - quotient * b);
                }
            }
        }
        sum("999/1000", 0);
        sum("1000/1000", 1);
        sum("999%1000", 999);
        sum("1000%1000", 0);
        sum("[0-999]/1000", 0);
        sum("[0-1000]/1000", -1);
        sum("[0-999]%1000", -999);
    }

    /** II: ""or", "and" ask what stands behind only if it can still matter"; what was asked breaks all. */
    private static void orAndAndAsk() {
        String[] tests = {"1=2", "1=1", "1/0=1"};
        int[] are = {0, 1, -1};
        for (int a = 0; a < 3; a++) {
            for (int b = 0; b < 3; b++) {
                int or = are[a] != 0 ? are[a] : are[b];
                int and = are[a] != 1 ? are[a] : are[b];
                test(tests[a] + " or " + tests[b], or);
                test(tests[a] + " and " + tests[b], and);
                for (int c = 0; c < 3; c++) {
                    test(tests[a] + " or " + tests[b] + " or " + tests[c], or != 0 ? or : are[c]);
                    test(tests[a] + " and " + tests[b] + " and " + tests[c], and != 1 ? and : are[c]);
                    test(tests[a] + " and " + tests[b] + " or " + tests[c], and != 0 ? and : are[c]);
                    int last = are[b] != 1 ? are[b] : are[c];
                    test(tests[a] + " or " + tests[b] + " and " + tests[c], are[a] != 0 ? are[a] : last);
                    test("(" + tests[a] + " or " + tests[b] + ") and " + tests[c], or != 1 ? or : are[c]);
                }
            }
        }
    }

    /** II: "not" PLAIN; SUM ("<" | ">" | "=") SUM at and beside what is the same. */
    private static void notAndComparisons() {
        for (int a = 0; a < 3; a++) {
            test("1<" + a, 1 < a ? 1 : 0);
            test("1>" + a, 1 > a ? 1 : 0);
            test("1=" + a, 1 == a ? 1 : 0);
            test("0-1<0-" + a, -1 < -a ? 1 : 0);
        }
        test("not 1=1", 0);
        test("not not 1=1", 1);
        test("not not not 1=1", 0);
        test("not 1=1 or 1=1", 1);
        test("not 1=2 and 1=2", 0);
        test("not (1=1 or 1=1)", 0);
        test("not 1/0=1", -1);
        test("not not 1/0=1", -1);
        test("not (1=1 or 1/0=1)", 0);
        test("not (1=2 and 1/0=1)", 1);
    }

    /** II: "a part that was asked and is BROKEN makes all of it BROKEN": on either side, in any bracket. */
    private static void brokenParts() {
        List<String> texts = new ArrayList<>();
        texts.add("1/0=1/0");
        texts.add("1=1/0");
        texts.add("1/0<1");
        texts.add("[[1/0]]>1");
        texts.add("((1/0=1))");
        texts.add("1+1/0*0=1");
        texts.add("(1=2 or 1/0=1) or 1=1");
        texts.add("(1=1 and 1/0=1) or 1=1");
        texts.add("not (1=2 or 1/0=1) and 1=2");
        for (String text : texts) {
            test(text, -1);
        }
        test("1=1 or (1=2 or 1/0=1)", 1);
        test("1=2 and (1=1 and 1/0=1)", 0);
        test("(1=1 or 1/0=1) and 1=1", 1);
        test("(1=2 and 1/0=1) or 1=2", 0);
    }
}
