import java.math.BigInteger;

/** The document's part V, and promises 27 to 32: each sentence that names an edge, on both sides of it. */
public final class YearEdgesTest {
    private static final Check CHECK = new Check();
    private static final int MAX = Integer.MAX_VALUE;
    private static final String LAND = "wide 30 30;house 8 8 10 10;house 20 8 22 10;house 14 20 15 22";

    public static void main(String[] args) {
        seeds();
        draws();
        drawnWall();
        canNotCome();
        noNumber();
        withoutHouses();
        yearIsOneMore();
        howManyYears();
        lastYear();
        afterYears();
        afterNone();
        afterLeavesAll();
        afterFull();
        images();
        imageHasAll();
        imageHasNot();
        imagesOfOthers();
        CHECK.end();
    }

    private static void seeds() {
        CHECK.says("x (0 to 2147483647; 0 at first)");
        RoundAnothers it = new RoundAnothers();
        CHECK.due("at first", it.seed(MAX), 0);
        CHECK.due("the greatest", it.count(5), MAX);
        CHECK.due("below 0", it.seed(-1), -1);
        CHECK.due("the least number", it.seed(Integer.MIN_VALUE), -1);
        CHECK.due("as it was", it.seed(0), MAX);
        CHECK.due("0", it.count(5), 0);
    }

    private static int next(int x) {
        return BigInteger.valueOf(x).multiply(BigInteger.valueOf(1103515245)).add(BigInteger.valueOf(12345))
                .mod(BigInteger.valueOf(2147483648L)).intValueExact();
    }

    private static void draws() {
        CHECK.says("a DRAW: x becomes x * 1103515245 + 12345, of 2147483648 the rest; it is x / 65536");
        for (int x : new int[] {0, 1, 65535, 65536, 1073741823, 1073741824, MAX - 1, MAX}) {
            RoundAnothers it = Check.object(LAND, "not 1=1");
            it.seed(x);
            int want = x;
            for (int n = 1; n <= 60; n += 59) {
                CHECK.due("none come", it.years(0, n), 0);
                for (int i = 0; i < 6 * n; i++) {
                    want = next(want);
                }
                CHECK.due("x from " + x, it.count(5), want);
            }
        }
    }

    /** From each of many x the first wall is the one that six draws tell. */
    private static void drawnWall() {
        CHECK.says("A FAMILY: a DRAW mod 12; the OUTERMOST THING, by their numbers, at the place a DRAW mod how many there are; "
                + "MARGINS l, u, r, d: 1 and a DRAW mod 3 each.");
        int[][] boxes = {{8, 8, 10, 10}, {20, 8, 22, 10}, {14, 20, 15, 22}};
        int[] seen = new int[12 + 3 + 12];
        for (int x = 0; x < 200; x++) {
            RoundAnothers it = Check.object(LAND, "far 1");
            it.seed(x * 9999991);
            int[] draw = new int[6];
            int at = x * 9999991;
            for (int i = 0; i < 6; i++) {
                at = next(at);
                draw[i] = at / 65536;
            }
            int[] box = boxes[draw[1] % 3];
            CHECK.due("a wall comes", it.years(0, 1), 1);
            CHECK.due("owner", it.thing(6, 4), draw[0] % 12);
            CHECK.due("round", it.thing(draw[1] % 3, 5), 6);
            CHECK.due("l", it.thing(6, 0), box[0] - 1 - draw[2] % 3);
            CHECK.due("u", it.thing(6, 1), box[1] - 1 - draw[3] % 3);
            CHECK.due("r", it.thing(6, 2), box[2] + 1 + draw[4] % 3);
            CHECK.due("d", it.thing(6, 3), box[3] + 1 + draw[5] % 3);
            seen[draw[0] % 12]++;
            seen[12 + draw[1] % 3]++;
            for (int i = 0; i < 4; i++) {
                seen[15 + 3 * i + draw[2 + i] % 3]++;
            }
        }
        for (int i = 0; i < seen.length; i++) {
            CHECK.due("drawn at least once, " + i, seen[i] > 0, true);
        }
        CHECK.says("the OUTERMOST THING, by their numbers");
        // House 0 is in wall 6: outermost are 1, 2 and 6 now.
        int[] outermost = {1, 2, 6};
        for (int x = 0; x < 30; x++) {
            RoundAnothers it = Check.object(LAND, "far 1");
            it.build(0, 0, 7, 7, 11, 11, 0, -1);
            it.seed(x * 7777777);
            it.years(0, 1);
            CHECK.due("round the drawn one", it.thing(outermost[next(next(x * 7777777)) / 65536 % 3], 5), 7);
        }
    }

    private static void canNotCome() {
        CHECK.says("If that WALL CAN come (and there is a number), it comes.");
        RoundAnothers it = Check.object("wide 5 5;house 0 2 1 3", "far 1");
        CHECK.due("no room on the left", it.years(0, 60), 0);
        CHECK.due("year", it.count(4), 60);
        it = Check.object(LAND, "far 4");
        CHECK.due("a margin is 3 at most", it.years(0, 60), 0);
        it = Check.object(LAND, "far 3");
        it.seed(5);
        int came = 0;
        for (int i = 0; i < 8; i++) {
            came += it.years(0, 60);
        }
        CHECK.due("walls that came", it.count(3), came);
        CHECK.due("some came by margins of 3", came > 0, true);
        for (int wall = 6; wall < 6 + came; wall++) {
            int in = inOf(it, wall);
            CHECK.due("l", it.thing(in, 0) - it.thing(wall, 0), 3);
            CHECK.due("d", it.thing(wall, 3) - it.thing(in, 3), 3);
        }
    }

    private static int inOf(RoundAnothers it, int wall) {
        for (int thing = 0; thing < 30; thing++) {
            if (it.thing(thing, 5) == wall) {
                return thing;
            }
        }
        return -1;
    }

    private static void noNumber() {
        CHECK.says("If that WALL CAN come (and there is a number), it comes.");
        RoundAnothers it = Check.full("far 1");
        int x = 0;
        for (int i = 0; i < 360; i++) {
            x = next(x);
        }
        CHECK.due("no number", it.years(0, 60), 0);
        CHECK.due("x all the same", it.count(5), x);
        CHECK.due("year all the same", it.count(4), 60);
        it.pull(29);
        for (int i = 0; i < 8 && it.count(3) == 23; i++) {
            it.years(0, 60);
        }
        CHECK.due("one number", it.count(3), 24);
        CHECK.due("it is that one", it.thing(29, 0) >= 0, true);
    }

    private static void withoutHouses() {
        CHECK.says("YEAR is one more. Without HOUSES there are no DRAWS.");
        RoundAnothers it = new RoundAnothers();
        Check.law(it, "far 1");
        it.seed(MAX);
        CHECK.due("none come", it.years(0, 60), 0);
        CHECK.due("x", it.count(5), MAX);
        CHECK.due("year", it.count(4), 60);
        Check.land(it, "house 9 9 10 10");
        CHECK.due("one year with a house", it.years(0, 1) >= 0, true);
        CHECK.due("draws", it.count(5) != MAX, true);
    }

    private static void yearIsOneMore() {
        CHECK.says("YEAR (0 at first, 9999 at most).");
        RoundAnothers it = Check.object(LAND, "may year = 2", "far 1");
        Check.wish(it, "want 100 + year");
        CHECK.due("at first", it.count(4), 0);
        CHECK.due("wish in year 0", it.wish(0, 0, 7, 7, 11, 11, 0, -1), 100);
        CHECK.due("years 0 and 1", it.years(0, 2), 0);
        CHECK.due("year 2", it.count(4), 2);
        CHECK.due("wish in year 2", it.wish(0, 0, 7, 7, 11, 11, 0, -1), 102);
        CHECK.due("the first wall comes in year 2", it.years(0, 1), 1);
        CHECK.due("years from 3 on", it.years(0, 60), 0);
    }

    private static void howManyYears() {
        CHECK.says("So many YEARS (1 to 60) by a LAW: how many WALLS come");
        RoundAnothers it = Check.object(LAND, "far 1");
        CHECK.due("0", it.years(0, 0), -1);
        CHECK.due("61", it.years(0, 61), -1);
        CHECK.due("-1", it.years(0, -1), -1);
        CHECK.due("year", it.count(4), 0);
        CHECK.due("x", it.count(5), 0);
        int came = it.years(0, 1);
        CHECK.due("year", it.count(4), 1);
        CHECK.due("walls", it.count(3), came);
        came += it.years(0, 60);
        CHECK.due("year", it.count(4), 61);
        CHECK.due("walls", it.count(3), came);
    }

    private static void lastYear() {
        CHECK.says("or if YEAR would be above 9999");
        RoundAnothers it = new RoundAnothers();
        Check.law(it, "far 1");
        for (int i = 0; i < 165; i++) {
            it.years(0, 60);
        }
        it.years(0, 39);
        CHECK.due("year", it.count(4), 9939);
        it.image(0);
        CHECK.due("to 9999 in 60", it.years(0, 60), 0);
        CHECK.due("year", it.count(4), 9999);
        CHECK.due("one more", it.years(0, 1), -1);
        CHECK.due("60 more", it.years(0, 60), -1);
        CHECK.due("year", it.count(4), 9999);
        it.back(0);
        it.years(0, 1);
        CHECK.due("60 from 9940", it.years(0, 60), -1);
        CHECK.due("year", it.count(4), 9940);
        CHECK.due("59 from 9940", it.years(0, 59), 0);
        CHECK.due("year", it.count(4), 9999);
        CHECK.due("another land begins anew", Check.land(it, "well 1 1"), 0);
        CHECK.due("year", it.count(4), 0);
    }

    private static void afterYears() {
        CHECK.says("AFTER n YEARS (0 to 60): what there would be: how many WALLS, NESTS, how DEEP the deepest WALL is, FREE CELLS.");
        for (int n : new int[] {0, 1, 2, 59, 60}) {
            RoundAnothers it = Check.object(LAND, "far 1", "join 1;far 2");
            it.seed(31 * n + 5);
            it.build(0, 3, 7, 7, 11, 11, 0, -1);
            it.build(0, 3, 6, 6, 12, 12, 6, -1);
            for (int law = 0; law < 2; law++) {
                it.image(0);
                int[] found = new int[4];
                for (int what = 0; what < 4; what++) {
                    found[what] = it.after(law, n, what);
                }
                if (n > 0) {
                    it.years(law, n);
                }
                int deepest = 0;
                for (int wall = 6; wall < 30; wall++) {
                    deepest = Math.max(deepest, it.thing(wall, 6));
                }
                CHECK.due("walls after " + n, found[0], it.count(3));
                CHECK.due("nests after " + n, found[1], it.nests(0));
                CHECK.due("deepest after " + n, found[2], deepest);
                CHECK.due("free after " + n, found[3], it.nests(1));
                it.back(0);
            }
        }
        RoundAnothers it = Check.object(LAND, "far 1");
        CHECK.due("-1", it.after(0, -1, 0), -1);
        CHECK.due("61", it.after(0, 61, 0), -1);
        CHECK.due("what -1", it.after(0, 0, -1), -1);
        CHECK.due("what 4", it.after(0, 0, 4), -1);
        CHECK.due("law 1", it.after(1, 0, 0), -1);
    }

    private static void afterNone() {
        CHECK.says("AFTER n YEARS (0 to 60): what there would be");
        RoundAnothers it = new RoundAnothers();
        Check.law(it, "far 1");
        int[] want = {0, 0, 0, 400};
        for (int n = 0; n <= 60; n += 60) {
            for (int what = 0; what < 4; what++) {
                CHECK.due("without houses, " + what, it.after(0, n, what), want[what]);
            }
        }
        Check.land(it, LAND);
        int[] houses = {0, 3, 0, 900 - 10};
        for (int what = 0; what < 4; what++) {
            CHECK.due("of houses alone, " + what, it.after(0, 0, what), houses[what]);
        }
        it.build(0, 0, 7, 7, 11, 11, 0, -1);
        int[] walled = {1, 3, 0, 900 - 16 - 6};
        for (int what = 0; what < 4; what++) {
            CHECK.due("of one wall, " + what, it.after(0, 0, what), walled[what]);
        }
    }

    private static void afterLeavesAll() {
        CHECK.says("AFTER n YEARS (0 to 60): what there would be");
        RoundAnothers it = Check.object(LAND, "far 1");
        it.build(0, 3, 7, 7, 11, 11, 0, -1);
        it.gate(6, 0, 0, 7);
        it.key(6, 5, true);
        it.like(3, 4, 5);
        it.errand(0, 0, 0, 0, 8, 8);
        it.years(0, 2);
        it.image(1);
        long before = Check.print(it);
        for (int what = 0; what < 4; what++) {
            it.after(0, 60, what);
        }
        CHECK.due("all stays", Check.print(it), before);
        int walls = it.count(3);
        it.after(0, 60, 0);
        CHECK.due("images, too", it.back(1), walls);
        CHECK.due("all stays", Check.print(it), before);
    }

    private static void afterFull() {
        CHECK.says("AFTER n YEARS (0 to 60): what there would be: how many WALLS, NESTS, how DEEP the deepest WALL is, FREE CELLS.");
        RoundAnothers it = Check.full("far 1");
        int[] want = {24, 6, 8, 1600 - 5 * 49 - 19 * 19};
        for (int what = 0; what < 4; what++) {
            CHECK.due("no number, " + what, it.after(0, 60, what), want[what]);
        }
    }

    private static void images() {
        CHECK.says("NONE, and nothing happens, if it was never made, or without it.");
        RoundAnothers it = Check.object("wide 40 40;house 19 19 20 20", "far 1");
        for (int k = -1; k <= 4; k++) {
            CHECK.due("never made " + k, it.back(k), -1);
        }
        CHECK.due("image -1", it.image(-1), -1);
        CHECK.due("image 4", it.image(4), -1);
        for (int k = 0; k < 4; k++) {
            CHECK.due("image " + k, it.image(k), k);
            for (int later = k + 1; later < 5; later++) {
                CHECK.due("never made " + later, it.back(later), -1);
            }
            it.build(0, k, 18 - k, 18 - k, 21 + k, 21 + k, k == 0 ? 0 : 5 + k, -1);
        }
        CHECK.due("walls", it.count(3), 4);
        int[] order = {3, 0, 2, 1, 0, 3};
        for (int k : order) {
            CHECK.due("back " + k, it.back(k), k);
            CHECK.due("walls", it.count(3), k);
            CHECK.due("the house", it.thing(0, 5), k == 0 ? -1 : 6);
        }
        CHECK.due("back -1", it.back(-1), -1);
        CHECK.due("back 4", it.back(4), -1);
        CHECK.due("nothing happens", it.count(3), 3);
        CHECK.says("An IMAGE is made: how many WALLS; NONE without it.");
        CHECK.due("in place of one", it.image(0), 3);
        it.pull(8);
        CHECK.due("back", it.back(0), 3);
        CHECK.due("of all numbers", Check.full("far 1").image(3), 24);
    }

    private static void imageHasAll() {
        CHECK.says("IMAGES 0 to 3: all but the TAPE, LAWS and WISHES, as it is; gone back to, it is as it was.");
        for (int k = 0; k < 4; k++) {
            RoundAnothers it = Check.full("far 1;join 1");
            it.like(3, 4, -9);
            it.like(11, 0, 9);
            it.gate(29, 3, 18, 999);
            it.key(29, 0, true);
            it.key(6, 11, true);
            it.errand(0, 1, 9, 33, 10, 32);
            it.errand(4, 0, 9, 33, 10, 31);
            it.errand(5, 1, 19, 24, 39, 39);
            it.years(0, 7);
            it.seed(MAX);
            long before = Check.print(it);
            CHECK.due("image", it.image(k), 24);
            change(it);
            CHECK.due("another", Check.print(it) != before, true);
            CHECK.due("back", it.back(k), 24);
            CHECK.due("as it was", Check.print(it), before);
            change(it);
            CHECK.due("back again", it.back(k), 24);
            CHECK.due("as it was", Check.print(it), before);
        }
    }

    private static void change(RoundAnothers it) {
        it.like(3, 4, 1);
        it.like(0, 1, 1);
        it.gate(29, 0, 0, 0);
        it.gate(6, 0, 0, 0);
        it.key(29, 0, false);
        it.key(6, 5, true);
        it.errand(0, 2, 1, 1, 2, 2);
        it.errand(3, 2, 1, 1, 2, 2);
        it.pull(20);
        it.pull(6);
        it.years(0, 60);
        it.seed(3);
        Check.land(it, "wide 9 9;worth 3 0 0 40 40;river 3 3 40 40;well 1 1;house 1 1 2 2");
        it.errand(1, 0, 0, 0, 1, 1);
    }

    private static void imageHasNot() {
        CHECK.says("all but the TAPE, LAWS and WISHES");
        RoundAnothers it = Check.object(LAND, "far 1");
        it.image(0);
        Check.law(it, "far 3");
        Check.wish(it, "want 5");
        Check.write(it, "wide 7 9");
        CHECK.due("back", it.back(0), 0);
        CHECK.due("laws", it.count(6), 2);
        CHECK.due("wishes", it.count(7), 1);
        CHECK.due("bytes", it.count(8), 8);
        CHECK.due("law 1", it.can(1, 0, 5, 5, 13, 13, 0, -1), 1);
        CHECK.due("law 1", it.can(1, 0, 6, 5, 13, 13, 0, -1), 0);
        CHECK.due("wish 0", it.wish(0, 0, 7, 7, 11, 11, 0, -1), 5);
        CHECK.due("the tape", it.land(), 0);
        CHECK.due("columns", it.count(0), 7);
    }

    private static void imagesOfOthers() {
        CHECK.says("gone back to, it is as it was");
        RoundAnothers it = new RoundAnothers();
        Check.law(it, "far 1");
        Check.wish(it, "want worth + 1000 * wells + 10000 * river");
        it.image(0);
        Check.land(it, "wide 30 30;house 8 8 10 10;worth 7 7 7 8 8;well 7 8;river 7 9 8 10");
        it.image(1);
        Check.land(it, "wide 12 12;house 8 8 10 10;worth 9 7 7 8 8");
        CHECK.due("wish here", it.wish(0, 0, 7, 7, 11, 11, 0, -1), 20);
        CHECK.due("back to the second", it.back(1), 0);
        CHECK.due("wish there", it.wish(0, 0, 7, 7, 11, 11, 0, -1), 11018);
        CHECK.due("back to the first", it.back(0), 0);
        CHECK.due("houses", it.count(2), 0);
        CHECK.due("columns", it.count(0), 20);
        CHECK.due("nests", it.nests(0), 0);
        CHECK.due("years without draws", it.years(0, 5) + it.count(5), 0);
    }
}
