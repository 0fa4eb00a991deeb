/** Promises 37 to 40: images, counts, the latest call's status. */
public final class ImagesTest {
    public static void main(String[] args) {
        image();
        backToAll();
        backToOtherHats();
        imagesStay();
        imagesLeaveTheRest();
        count();
        status();
        Due.end("ImagesTest");
    }

    private static void image() {
        TruthHats x = new TruthHats();
        Due.refused(x, "37: image(2)", () -> x.image(2), -1);
        Due.refused(x, "37: image(-1)", () -> x.image(-1), -1);
        Due.refused(x, "38: back(2)", () -> x.back(2), -1);
        Due.refused(x, "38: back(-1)", () -> x.back(-1), -1);
        Due.refused(x, "38: back(0)", () -> x.back(0), -2);
        Due.fine(x, "37: image(1)", () -> x.image(1), 0);
        Due.refused(x, "38: back(0) still", () -> x.back(0), -2);
        Due.fine(x, "38: back(1)", () -> x.back(1), 0);
    }

    private static void backToAll() {
        TruthHats x = new TruthHats();
        x.hat(1, 2);
        x.hat(3, 4);
        x.hang(0, 5);
        x.think(0, 6);
        x.terms(0, 10);
        x.terms(1, 4);
        x.terms(2, 9);
        Due.law(x, "tells 5");
        Due.law(x, "tells 6");
        x.force(1);
        x.heard(6, 1);
        x.image(0);
        x.hat(0, 0);
        x.pass();
        x.take(0);
        x.think(1, 0);
        x.terms(1, 0);
        x.terms(2, 0);
        Due.law(x, "tells 7");
        x.force(2);
        x.heard(0, 1);
        x.back(0);
        int[] counts = {2, 1, 64, 1, 2, 0, 0, 0, 0, 0, 0, 0, 1, 10, 4, 9};
        for (int i = 0; i < counts.length; i++) {
            Due.due("38: count(" + i + ") behind back()", x.count(i), counts[i]);
        }
        Due.due("38: of(0, 2)", x.of(0, 2), 5);
        Due.due("38: of(0, 3)", x.of(0, 3), 64);
        Due.due("38: of(1, 3)", x.of(1, 3), 0);
        Due.due("38: of(2, 0)", x.of(2, 0), -1);
        Due.due("38: two(0, 1, 0)", x.two(0, 1, 0), 6);
        Due.due("38: canBe()", x.canBe(), 1);
        Due.due("38: its kind and how tall it is", x.of(1, 0) * 10 + x.of(1, 1), 34);
        Due.due("38: the next hat's number", x.hat(2, 2), 2);
        Due.due("38: it knows nothing", x.of(2, 3), 0);
        Due.due("38: the next law's number", Due.law(x, "tells 8"), 2);
        Due.due("38: the next law", x.compare(2, 0, 1), 8);
    }

    private static void backToOtherHats() {
        TruthHats x = new TruthHats();
        x.image(0);
        x.hat(1, 2);
        x.heard(3, 0);
        x.heard(4, 1);
        x.image(1);
        x.back(0);
        x.hat(3, 7);
        x.think(0, 3);
        x.think(0, 4);
        Due.due("38: nothing was heard in image 0", x.canBe(), 1);
        x.back(1);
        Due.due("38: kind", x.of(0, 0), 1);
        Due.due("38: tall", x.of(0, 1), 2);
        Due.due("38: knows", x.of(0, 3), 0);
        x.think(0, 4);
        Due.due("38: heard", x.canBe(), 1);
        x.think(0, 3);
        Due.due("38: heard that it is not known", x.canBe(), 0);
    }

    private static void imagesStay() {
        TruthHats x = new TruthHats();
        x.hat(0, 0);
        x.hat(0, 0);
        Due.law(x, "tells 3");
        x.image(0);
        Due.law(x, "tells 4");
        x.force(1);
        x.think(0, 1);
        x.image(1);
        x.back(0);
        Due.due("38: laws of image 0", x.count(4), 1);
        Due.law(x, "tells 5");
        Due.due("38: another law 1", x.compare(1, 0, 1), 5);
        x.think(0, 7);
        x.back(1);
        Due.due("38: law 1 of image 1", x.compare(1, 0, 1), 4);
        Due.due("38: the law in force of image 1", x.count(12), 1);
        Due.due("38: of(0, 3) of image 1", x.of(0, 3), 2);
        x.think(0, 2);
        x.back(1);
        Due.due("38: image 1 again", x.of(0, 3), 2);
        x.back(0);
        Due.due("38: image 0 again", x.of(0, 3), 0);
        Due.due("38: no law in force in image 0", x.count(12), -1);
        x.think(0, 5);
        x.image(1);
        x.back(0);
        x.back(1);
        Due.due("37: an image kept anew", x.of(0, 3), 32);
    }

    private static void imagesLeaveTheRest() {
        TruthHats x = new TruthHats();
        x.image(0);
        x.hat(0, 0);
        x.hat(0, 0);
        x.hang(0, 0);
        x.capitals(25, 1);
        Due.putBytes(x, new byte[] {9, 9, 9, 1});
        x.row();
        Due.orders(x, "pass; take 1");
        Due.law(x, "bars 1");
        Due.put(x, "xyz");
        x.back(0);
        Due.due("38: caps() stay", x.caps(), 2);
        Due.due("38: fault() stays", x.fault(), 5);
        Due.due("38: stopped() stays", x.stopped(), 1);
        Due.due("38: the tape stays", x.count(6), 3);
        Due.due("38: the latest capitals stay", x.drawn(1, 1), 0);
        Due.due("38: the refusals stay", x.count(9) + x.count(11), 2);
        Due.due("38: no hats", x.count(0), 0);
    }

    private static void count() {
        TruthHats x = new TruthHats();
        Due.due("39: count(-1)", x.count(-1), -1);
        Due.due("39: count(16)", x.count(16), -1);
        x.hat(9, 9);
        x.hang(0, 0);
        x.hang(0, 10);
        x.force(3);
        x.undo();
        x.law();
        x.row();
        x.orders();
        for (int i = 0; i < 8; i++) {
            x.hat(0, 0);
        }
        // none of these is refused: they answer NONE
        x.of(9, 9);
        x.end(999);
        x.few(0, 0);
        x.count(99);
        int[] refusals = {2, 2, 1, 1, 3};
        for (int i = 0; i < 5; i++) {
            Due.due("39: count(" + (7 + i) + ")", x.count(7 + i), refusals[i]);
        }
        x.hang(3, 3);
        x.think(3, 7);
        x.think(2, 0);
        x.think(1, 7);
        x.heard(1, 1);
        x.feed(1, 1, 1, 1, 1);
        int[] counts = {7, 1, 129, 1, 0, 4, 20};
        for (int i = 0; i < counts.length; i++) {
            Due.due("39: count(" + i + ")", x.count(i), counts[i]);
        }
    }

    private static void status() {
        TruthHats x = new TruthHats();
        Due.due("40: ahead of any", x.status(), 0);
        x.hat(9, 9);
        Due.due("40: behind a refused hat()", x.status(), -1);
        // these do not count
        x.of(0, 0);
        x.two(0, 1, 0);
        x.on(0);
        x.feed(0, 0, 0, 0, 0);
        x.end(0);
        x.caps();
        x.fault();
        x.stopped();
        x.later(0, 0);
        x.learns(0, 0);
        x.still();
        x.pegFor(0, 0, 1, 1);
        x.cut(0, 0, 0);
        x.quiet(1, -1);
        x.groups(-1);
        x.talkative(0);
        x.forget();
        x.canBe();
        x.ask(0);
        x.few(1, 1);
        x.compare(-1, 0, 1);
        x.drawn(0, 0);
        x.count(0);
        Due.due("40: behind calls that do not count", x.status(), -1);
        x.hat(0, 0);
        Due.due("40: behind hat()", x.status(), 0);
    }
}
