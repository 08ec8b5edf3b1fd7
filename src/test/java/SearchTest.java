/** Promises 16 to 19: best, ahead, least, most. */
public final class SearchTest {
    private static final Check CHECK = new Check();
    private static final String ONE = "house 9 9 11 11";

    public static void main(String[] args) {
        best();
        bestOfTwo();
        bestAbsent();
        ahead();
        aheadAbsent();
        least();
        most();
        CHECK.end();
    }

    private static void margins(String name, RoundAnothers it, int wish, int m, int... want) {
        for (int what = 0; what < 5; what++) {
            CHECK.due("best " + name + " " + what, it.best(0, wish, 0, 0, -1, m, what), want[what]);
        }
    }

    private static void best() {
        RoundAnothers it = Check.object(ONE, "far 1");
        Check.wish(it, "want ground");
        Check.wish(it, "want 1");
        Check.wish(it, "want width");
        Check.wish(it, "want width - height");
        for (int m = 1; m <= 4; m++) {
            margins("ground", it, 0, m, m, m, m, m, m * m * m * m);
            margins("shortest", it, 1, m, 1, 1, 1, 1, m * m * m * m);
            margins("width", it, 2, m, m, 1, m, 1, m * m * m * m);
            margins("width - height", it, 3, m, m, 1, m, 1, m * m * m * m);
        }
        it = Check.object(ONE, "not width > 6");
        Check.wish(it, "want width");
        margins("the first", it, 0, 3, 1, 1, 3, 1, 9 * (1 + 2 + 3));
        it = Check.object(ONE, "not long > 20");
        Check.wish(it, "want long");
        margins("the first", it, 0, 3, 1, 1, 1, 3, 1 + 4 + 10);
        it = Check.object(ONE, "not long > 10");
        Check.wish(it, "want long");
        margins("none", it, 0, 4, -2, -2, -2, -2, 0);
        it = Check.object("house 1 2 3 4;worth 50 0 0 2 20;worth 50 0 0 20 2", "far 1");
        Check.wish(it, "want worth - 20 * ground");
        margins("at the edge", it, 0, 4, 1, 2, 1, 4, 2 * 4 * 4);
    }

    private static void bestOfTwo() {
        RoundAnothers it = Check.object("house 5 5 7 7;house 9 8 10 12", "join 1", "far 1");
        Check.wish(it, "want 0 - ground");
        int[] want = {1, 1, 1, 1, 16};
        for (int what = 0; what < 5; what++) {
            CHECK.due("two " + what, it.best(0, 0, 0, 0, 1, 2, what), want[what]);
            CHECK.due("two the other way " + what, it.best(0, 0, 0, 1, 0, 2, what), want[what]);
            CHECK.due("two without join " + what, it.best(1, 0, 0, 0, 1, 2, what), what == 4 ? 0 : -2);
            CHECK.due("alike " + what, it.best(0, 0, 0, 0, 0, 2, what), what == 4 ? 0 : -2);
        }
        CHECK.due("line of two", it.least(0, 0, 0, 1, 2), 2 * (7 + 9));
        it.build(1, 0, 4, 4, 8, 8, 0, -1);
        CHECK.due("not outermost", it.best(0, 0, 0, 0, -1, 2, 0), -2);
        CHECK.due("not outermost", it.best(0, 0, 0, 0, -1, 2, 4), 0);
    }

    private static void bestAbsent() {
        RoundAnothers it = Check.object(ONE, "far 1");
        Check.wish(it, "want 1");
        CHECK.due("no law", it.best(1, 0, 0, 0, -1, 1, 0), -1);
        CHECK.due("no wish", it.best(0, 1, 0, 0, -1, 1, 4), -1);
        CHECK.due("no family", it.best(0, 0, 12, 0, -1, 1, 0), -1);
        CHECK.due("no thing", it.best(0, 0, 0, 1, -1, 1, 0), -1);
        CHECK.due("no other", it.best(0, 0, 0, 0, 1, 1, 0), -1);
        CHECK.due("m 0", it.best(0, 0, 0, 0, -1, 0, 0), -1);
        CHECK.due("m 5", it.best(0, 0, 0, 0, -1, 5, 0), -1);
        CHECK.due("what 5", it.best(0, 0, 0, 0, -1, 1, 5), -1);
        CHECK.due("what -1", it.best(0, 0, 0, 0, -1, 1, -1), -1);
        CHECK.due("nothing came", it.count(3), 0);
    }

    private static void ahead(String name, RoundAnothers it, int... want) {
        for (int what = 0; what < 4; what++) {
            CHECK.due("ahead " + name + " " + what, it.ahead(0, 0, 1, 2, 0, 2, what), want[what]);
        }
    }

    private static void ahead() {
        // Round a line of 16 or 18 the next one would come, round one of 20 nobody.
        RoundAnothers it = Check.object(ONE, "not long > 26");
        Check.wish(it, "want 100 - long");
        margins("as if alone", it, 0, 2, 1, 1, 1, 1, 16);
        ahead("of the next", it, 1, 1, 2, 2);
        it = Check.object(ONE, "not long > 26 and deep > 0");
        Check.wish(it, "want 100 - long if deep = 0;want 5 - 10 if deep > 0");
        ahead("of one whose wish is below 0", it, 1, 1, 1, 1);
        // The next one's wish goes by his like of the first family, and by walls that he has.
        it = Check.object(ONE, "not long > 26");
        Check.wish(it, "want 100 - long if like < 5");
        it.like(2, 1, 5);
        ahead("of one who wants nothing then", it, 1, 1, 1, 1);
        it = Check.object(ONE + ";house 1 1 2 2", "not long > 26");
        Check.wish(it, "want 100 - long if own = 0");
        it.build(0, 2, 0, 0, 3, 3, 1, -1);
        ahead("of one who has a wall", it, 1, 1, 1, 1);
        it = Check.object(ONE, "not deep > 0");
        Check.wish(it, "want ground");
        ahead("of none who could come", it, 2, 2, 2, 2);
        it = Check.object(ONE, "not long > 10");
        Check.wish(it, "want 1");
        ahead("none", it, -2, -2, -2, -2);
        it = Check.object(ONE, "not long > 26");
        Check.wish(it, "want 100 - long");
        CHECK.due("m 1", it.ahead(0, 0, 1, 2, 0, 1, 3), 1);
        CHECK.due("all is as it was", it.count(3), 0);
        CHECK.due("outermost as it was", it.thing(0, 5), -1);
        it.build(0, 0, 8, 8, 12, 12, 0, -1);
        CHECK.due("not outermost", it.ahead(0, 0, 1, 2, 0, 1, 3), -2);
    }

    private static void aheadAbsent() {
        RoundAnothers it = Check.object(ONE, "far 1");
        Check.wish(it, "want 1");
        CHECK.due("no law", it.ahead(1, 0, 1, 2, 0, 1, 0), -1);
        CHECK.due("no wish", it.ahead(0, 1, 1, 2, 0, 1, 0), -1);
        CHECK.due("no family", it.ahead(0, 0, 12, 2, 0, 1, 0), -1);
        CHECK.due("no next", it.ahead(0, 0, 1, 12, 0, 1, 0), -1);
        CHECK.due("no next", it.ahead(0, 0, 1, -1, 0, 1, 0), -1);
        CHECK.due("families alike", it.ahead(0, 0, 1, 1, 0, 1, 0), -1);
        CHECK.due("no thing", it.ahead(0, 0, 1, 2, 1, 1, 0), -1);
        CHECK.due("m 0", it.ahead(0, 0, 1, 2, 0, 0, 0), -1);
        CHECK.due("m 3", it.ahead(0, 0, 1, 2, 0, 3, 0), -1);
        CHECK.due("what 4", it.ahead(0, 0, 1, 2, 0, 1, 4), -1);
        CHECK.due("what -1", it.ahead(0, 0, 1, 2, 0, 1, -1), -1);
    }

    private static void least() {
        RoundAnothers it = Check.object(ONE, "far 1", "far 2", "may width * height > 100", "far 5");
        CHECK.due("far 1", it.least(0, 0, 0, -1, 5), 16);
        CHECK.due("far 2", it.least(1, 0, 0, -1, 2), 24);
        CHECK.due("far 2, m 1", it.least(1, 0, 0, -1, 1), -2);
        CHECK.due("area above 100", it.least(2, 0, 0, -1, 5), 42);
        CHECK.due("area above 100, m 4", it.least(2, 0, 0, -1, 4), -2);
        CHECK.due("far 5", it.least(3, 0, 0, -1, 5), 48);
        CHECK.due("no law", it.least(4, 0, 0, -1, 1), -1);
        CHECK.due("no family", it.least(0, 12, 0, -1, 1), -1);
        CHECK.due("no thing", it.least(0, 0, 6, -1, 1), -1);
        CHECK.due("no other", it.least(0, 0, 0, 1, 1), -1);
        CHECK.due("m 0", it.least(0, 0, 0, -1, 0), -1);
        CHECK.due("m 6", it.least(0, 0, 0, -1, 6), -1);
        CHECK.due("alike", it.least(0, 0, 0, 0, 1), -2);
    }

    private static void most() {
        RoundAnothers it = Check.object(ONE, "far 1", "far 2", "far 1 if own < 2;far 3", "not own > 2", "far 1 + deep",
                "not width = 4;not width = 20");
        int[] want = {9, 4, 4, 3, 3, 7};
        for (int law = 0; law < want.length; law++) {
            CHECK.due("most by law " + law, it.most(law, 0, 0), want[law]);
        }
        CHECK.due("no law", it.most(6, 0, 0), -1);
        CHECK.due("no family", it.most(0, 12, 0), -1);
        CHECK.due("no thing", it.most(0, 0, 1), -1);
        CHECK.due("nothing came", it.count(3), 0);
        CHECK.due("outermost as it was", it.thing(0, 5), -1);
        it.build(0, 4, 8, 8, 12, 12, 0, -1);
        CHECK.due("not outermost", it.most(0, 0, 0), 0);
        CHECK.due("round as it was", it.thing(0, 5), 6);
        CHECK.due("round the wall", it.most(0, 0, 6), 8);
        CHECK.due("like does not matter to oneself", it.most(3, 4, 6), 2);
        it = Check.object("house 9 9 11 11;house 9 15 11 17", "far 1");
        CHECK.due("another is in the way", it.most(0, 0, 0), 3);
        it = Check.object("wide 40 40;house 19 19 20 20", "far 1", "far 10");
        CHECK.due("many", it.most(0, 0, 0), 19);
        CHECK.due("beyond 9", it.most(1, 0, 0), 0);
        it = Check.object(ONE, "far 9");
        CHECK.due("just 9", it.most(0, 0, 0), 1);
    }
}
