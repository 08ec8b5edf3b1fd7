/** Promises 31 and 32: image, back. */
public final class ImageTest {
    private static final Check CHECK = new Check();

    public static void main(String[] args) {
        absent();
        allIsAsItWas();
        several();
        CHECK.end();
    }

    private static void absent() {
        RoundAnothers it = new RoundAnothers();
        CHECK.due("image 4", it.image(4), -1);
        CHECK.due("image -1", it.image(-1), -1);
        CHECK.due("back 4", it.back(4), -1);
        CHECK.due("back -1", it.back(-1), -1);
        CHECK.due("never made", it.back(0), -1);
        CHECK.due("image 3", it.image(3), 0);
        CHECK.due("never made", it.back(2), -1);
        CHECK.due("back 3", it.back(3), 0);
    }

    /** All that can be asked without changing it, in one number. */
    private static long print(RoundAnothers it) {
        long print = 7;
        for (int i = 0; i < 6; i++) {
            print = print * 31 + it.count(i);
        }
        for (int t = 0; t < 30; t++) {
            for (int what = 0; what < 12; what++) {
                print = print * 31 + it.thing(t, what);
            }
        }
        for (int y = 0; y < 40; y++) {
            for (int x = 0; x < 40; x++) {
                for (int what = 0; what < 4; what++) {
                    print = print * 31 + it.cell(x, y, what);
                }
            }
        }
        print = print * 31 + it.sum(0);
        print = print * 31 + it.sum(1);
        print = print * 31 + it.way(9, 0, 0, 5, 5, 0);
        print = print * 31 + it.can(0, 0, 3, 3, 9, 9, 6, -1);
        return print * 31 + it.wish(0, 2, 3, 3, 9, 9, 6, -1);
    }

    private static void allIsAsItWas() {
        RoundAnothers it = Check.object("wide 22 23;house 5 5 7 7;house 12 12 13 13;worth 9 4 4 9 9;river 3 0 4 2;well 3 3", "far 1");
        Check.wish(it, "want worth + 100 * like + 1000 * year + 5 * wells");
        it.build(0, 1, 4, 4, 8, 8, 0, -1);
        it.gate(6, 0, 0, 5);
        it.key(6, 3, true);
        it.like(2, 1, 4);
        it.errand(0, 3, 0, 0, 5, 5);
        it.errand(1, 4, 0, 0, 5, 5);
        it.years(0, 1);
        it.seed(12);
        long before = print(it);
        CHECK.due("walls", it.image(0), it.count(3));
        it.gate(6, 1, 1, 9);
        it.key(6, 3, false);
        it.key(6, 4, true);
        it.like(2, 1, -4);
        it.errand(1, 4, 0, 0, 0, 5);
        it.errand(2, 4, 0, 0, 0, 5);
        it.years(0, 20);
        it.pull(6);
        Check.land(it, "house 1 1 2 2;wide 40 40;river 5 5 9 9;worth 50 0 0 40 40");
        Check.law(it, "far 2");
        Check.wish(it, "want 2");
        it.feed(0, 0, 0, 0, 0);
        CHECK.due("another", print(it) == before, false);
        int walls = it.back(0);
        CHECK.due("walls", walls, it.count(3));
        CHECK.due("all is as it was", print(it), before);
        CHECK.due("laws stay", it.count(6), 2);
        CHECK.due("wishes stay", it.count(7), 2);
        CHECK.due("the tape stays", it.count(8), 20);
        CHECK.due("family 3 has its key", it.key(6, 3, true), false);
        CHECK.due("family 4 has none", it.key(6, 4, false), false);
        CHECK.due("like", it.like(2, 1, 4), 4);
    }

    private static void several() {
        RoundAnothers it = Check.object("house 9 9 11 11", "far 1");
        for (int k = 0; k < 4; k++) {
            CHECK.due("image " + k, it.image(k), k);
            it.build(0, k, 8 - k, 8 - k, 12 + k, 12 + k, k == 0 ? 0 : 5 + k, -1);
        }
        for (int k = 3; k >= 0; k--) {
            CHECK.due("back " + k, it.back(k), k);
            CHECK.due("walls " + k, it.count(3), k);
        }
        CHECK.due("forth again", it.back(3), 3);
        CHECK.due("made anew", it.image(0), 3);
        it.pull(6);
        CHECK.due("an image does not change", it.back(0), 3);
        CHECK.due("nor by going back to it", it.pull(6) && it.back(0) == 3, true);
    }
}
