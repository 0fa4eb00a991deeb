/** Halls that several tests begin with; each call makes a new one, and each one alike. */
final class Halls {
    private Halls() {
    }

    static TruthHats bare() {
        return new TruthHats();
    }

    /** So many hats that are off; the i-th is of kind i % 4, i tall. */
    static TruthHats hats(int n) {
        TruthHats x = new TruthHats();
        for (int i = 0; i < n; i++) {
            x.hat(i % 4, i);
        }
        return x;
    }

    /** So many hats side by side from that peg on, the first of which knows these thoughts. */
    static TruthHats line(int n, int peg, int... thoughts) {
        TruthHats x = hats(n);
        for (int i = 0; i < n; i++) {
            x.hang(i, peg + i);
        }
        for (int thought : thoughts) {
            x.think(0, thought);
        }
        return x;
    }

    /** Something of all that can be kept, and room for more of it: neither empty nor full anywhere. */
    static TruthHats busy() {
        TruthHats x = new TruthHats();
        x.hat(3, 8);
        x.image(1);
        x.hat(1, 3);
        x.hat(2, 9);
        x.hat(0, 5);
        x.think(0, 0);
        x.think(0, 3);
        x.hang(0, 4);
        x.terms(1, 3);
        x.terms(2, 7);
        x.terms(0, 40);
        Due.law(x, "tells 2; weighs 5; bars if thought = 7");
        Due.law(x, "tells 3 - rain % 2");
        x.heard(0, 1);
        x.image(0);
        x.force(1);
        x.heard(3, 0);
        x.capitals(77, 9);
        Due.putBytes(x, new byte[] {1, 1, 1, 9});
        x.row();
        Due.orders(x, "pass; take 9");
        Due.law(x, "bars 1");
        x.hang(1, 5);
        x.hang(2, 9);
        x.think(1, 6);
        x.pass();
        Due.putBytes(x, new byte[] {2, 7, -127, 3});
        return x;
    }

    /** As much as can be of all: hats, laws, what was heard, what can be undone, images, the tape. */
    static TruthHats full() {
        TruthHats x = hats(7);
        for (int i = 0; i < 6; i++) {
            Due.law(x, "tells " + i + "; weighs 10 + thought");
            x.heard(i, i % 2);
        }
        x.image(0);
        x.force(5);
        x.terms(0, 990);
        x.terms(1, 10);
        x.terms(2, 9);
        for (int i = 0; i < 7; i++) {
            x.think(i, i);
            x.think(i, 7);
            x.hang(i, 1 + i);
        }
        x.pass();
        x.take(6);
        x.image(1);
        x.capitals(1000000, 60);
        for (int i = 0; i < 20; i++) {
            x.feed(i << 24 | 50, 3 << 24, -i, 0x20202020, 0x01020304);
        }
        return x;
    }
}
