/** Promises 27 to 29: seed, years, after. */
public final class YearTest {
    private static final Check CHECK = new Check();
    private static final String LAND = "wide 30 30;house 8 8 10 10;house 20 8 22 10;house 14 20 15 22";
    private static long x;

    public static void main(String[] args) {
        seed();
        draws();
        noNumber();
        withoutHouses();
        lastYear();
        absent();
        after();
        CHECK.end();
    }

    private static void seed() {
        RoundAnothers it = new RoundAnothers();
        CHECK.due("0 at first", it.seed(Integer.MAX_VALUE), 0);
        CHECK.due("below 0", it.seed(-1), -1);
        CHECK.due("what it was", it.seed(5), Integer.MAX_VALUE);
        CHECK.due("x", it.count(5), 5);
        CHECK.due("0 again", it.seed(0), 5);
        CHECK.due("x 0", it.count(5), 0);
    }

    private static int draw() {
        x = (x * 1103515245L + 12345L) % 2147483648L;
        return (int) (x / 65536);
    }

    private static int nthOutermost(RoundAnothers it, int draw) {
        int left = draw % it.nests(0);
        for (int i = 0; i < 30; i++) {
            if (it.thing(i, 0) != -2 && it.thing(i, 5) == -1 && left-- == 0) {
                return i;
            }
        }
        return -1;
    }

    /** The same year by the other calls. */
    private static int yearByHand(RoundAnothers it) {
        int family = draw() % 12;
        int thing = nthOutermost(it, draw());
        int left = it.thing(thing, 0) - 1 - draw() % 3;
        int up = it.thing(thing, 1) - 1 - draw() % 3;
        int right = it.thing(thing, 2) + 1 + draw() % 3;
        int down = it.thing(thing, 3) + 1 + draw() % 3;
        return it.build(0, family, left, up, right, down, thing, -1) >= 0 ? 1 : 0;
    }

    private static void same(RoundAnothers it, RoundAnothers byHand) {
        for (int i = 6; i < 30; i++) {
            for (int what = 0; what < 7; what++) {
                CHECK.due("thing " + i + " " + what, it.thing(i, what), byHand.thing(i, what));
            }
        }
    }

    private static void draws() {
        for (int seed = 0; seed < 2000000000; seed += 123456789) {
            RoundAnothers it = Check.object(LAND, "not ground > 60");
            RoundAnothers byHand = Check.object(LAND, "not ground > 60");
            it.seed(seed);
            x = seed;
            int all = 0;
            for (int n = 1; n < 5; n++) {
                int came = 0;
                for (int i = 0; i < n; i++) {
                    came += yearByHand(byHand);
                }
                all += came;
                CHECK.due("years " + n, it.years(0, n), came);
                CHECK.due("x", it.count(5), x);
            }
            same(it, byHand);
            CHECK.due("walls", it.count(3), all);
            CHECK.due("year", it.count(4), 10);
        }
        RoundAnothers it = Check.object(LAND, "may year = 3");
        it.seed(1);
        CHECK.due("none till year 3", it.years(0, 3), 0);
        it.seed(1);
        RoundAnothers other = Check.object(LAND, "far 1");
        other.seed(1);
        CHECK.due("in year 3", it.years(0, 1), other.years(0, 1));
    }

    private static void noNumber() {
        RoundAnothers it = Check.object("wide 40 40;house 3 3 4 4;house 11 3 12 4;house 19 3 20 4;house 27 3 28 4;house 35 3 36 4;"
                + "house 19 24 20 25", "far 1");
        int number = 6;
        for (int h = 0; h < 5; h++) {
            for (int i = 0; i < 3; i++) {
                it.build(0, 0, 2 + 8 * h - i, 2 - i, 5 + 8 * h + i, 5 + i, i == 0 ? h : number - 1, -1);
                number++;
            }
        }
        for (int i = 0; i < 9; i++) {
            it.build(0, 0, 18 - i, 23 - i, 21 + i, 26 + i, i == 0 ? 5 : number - 1, -1);
            number++;
        }
        CHECK.due("all numbers", it.count(3), 24);
        CHECK.due("no number", it.years(0, 60), 0);
        CHECK.due("year", it.count(4), 60);
        x = 0;
        for (int i = 0; i < 360; i++) {
            draw();
        }
        CHECK.due("draws all the same", it.count(5), x);
    }

    private static void withoutHouses() {
        RoundAnothers it = new RoundAnothers();
        Check.law(it, "far 1");
        it.seed(8);
        CHECK.due("none came", it.years(0, 60), 0);
        CHECK.due("no draws", it.count(5), 8);
        CHECK.due("year", it.count(4), 60);
    }

    private static void lastYear() {
        RoundAnothers it = new RoundAnothers();
        Check.law(it, "far 1");
        for (int i = 0; i < 166; i++) {
            it.years(0, 60);
        }
        CHECK.due("year", it.count(4), 9960);
        CHECK.due("above 9999", it.years(0, 40), -1);
        CHECK.due("nothing happened", it.count(4), 9960);
        CHECK.due("to 9999", it.years(0, 39), 0);
        CHECK.due("year", it.count(4), 9999);
        CHECK.due("above 9999", it.years(0, 1), -1);
    }

    private static void absent() {
        RoundAnothers it = Check.object(LAND, "far 1");
        CHECK.due("no law", it.years(1, 1), -1);
        CHECK.due("no law", it.years(-1, 1), -1);
        CHECK.due("n 0", it.years(0, 0), -1);
        CHECK.due("n 61", it.years(0, 61), -1);
        CHECK.due("nothing happened", it.count(4) + it.count(5), 0);
        CHECK.due("after: no law", it.after(1, 1, 0), -1);
        CHECK.due("after: n -1", it.after(0, -1, 0), -1);
        CHECK.due("after: n 61", it.after(0, 61, 0), -1);
        CHECK.due("after: what 4", it.after(0, 1, 4), -1);
        CHECK.due("after: what -1", it.after(0, 1, -1), -1);
    }

    private static int deepest(RoundAnothers it) {
        int most = 0;
        for (int i = 6; i < 30; i++) {
            most = Math.max(most, it.thing(i, 6));
        }
        return most;
    }

    private static void after() {
        for (int n = 0; n <= 60; n += 6) {
            RoundAnothers it = Check.object(LAND, "far 1", "far 2");
            it.seed(1000 + n);
            it.build(0, 3, 7, 7, 11, 11, 0, -1);
            it.gate(6, 0, 0, 7);
            int[] found = new int[4];
            for (int what = 0; what < 4; what++) {
                found[what] = it.after(n % 4 == 0 ? 0 : 1, n, what);
            }
            CHECK.due("walls as they were", it.count(3), 1);
            CHECK.due("year as it was", it.count(4), 0);
            CHECK.due("x as it was", it.count(5), 1000 + n);
            CHECK.due("nests as they were", it.nests(0), 3);
            CHECK.due("the gate as it was", it.thing(6, 11), 7);
            if (n > 0) {
                it.years(n % 4 == 0 ? 0 : 1, n);
            }
            CHECK.due("walls", found[0], it.count(3));
            CHECK.due("nests", found[1], it.nests(0));
            CHECK.due("deepest", found[2], deepest(it));
            CHECK.due("free", found[3], it.nests(1));
        }
        RoundAnothers it = new RoundAnothers();
        Check.law(it, "far 1");
        CHECK.due("deepest of none", it.after(0, 60, 2), 0);
        CHECK.due("free without houses", it.after(0, 60, 3), 400);
    }
}
