/** Promises 6 to 10, 13 and 15: like, can, build, wish, pull, thing, inside. */
public final class WallTest {
    private static final Check CHECK = new Check();
    private static final String PAIR = "house 5 5 7 7;house 10 5 12 7";

    public static void main(String[] args) {
        like();
        rectangles();
        far();
        rivers();
        joined();
        mayAndNot();
        absent();
        build();
        noNumber();
        wish();
        pull();
        thing();
        inside();
        CHECK.end();
    }

    private static void like() {
        RoundAnothers it = Check.object("house 5 5 7 7", "far 1");
        CHECK.due("0 at first", it.like(0, 11, 9), 0);
        CHECK.due("what it was", it.like(0, 11, -9), 9);
        CHECK.due("n 10", it.like(0, 11, 10), -100);
        CHECK.due("n -10", it.like(0, 11, -10), -100);
        CHECK.due("alike", it.like(3, 3, 1), -100);
        CHECK.due("family 12", it.like(0, 12, 1), -100);
        CHECK.due("family -1", it.like(-1, 1, 1), -100);
        CHECK.due("nothing happened", it.like(0, 11, 0), -9);
        CHECK.due("the other way", it.like(11, 0, 1), 0);
        Check.wish(it, "want like");
        it.build(0, 5, 4, 4, 8, 8, 0, -1);
        it.like(2, 5, -4);
        it.like(5, 2, 3);
        CHECK.due("like of the builder", it.wish(0, 2, 3, 3, 9, 9, 6, -1), -4);
        CHECK.due("like to oneself", it.wish(0, 5, 3, 3, 9, 9, 6, -1), 0);
        it = Check.object(PAIR, "far 1;join 1");
        Check.wish(it, "want like");
        it.build(0, 5, 4, 4, 8, 8, 0, -1);
        CHECK.due("like of a wall and a house", it.wish(0, 2, 3, 3, 14, 9, 6, 1), 0);
        it.build(0, 6, 9, 4, 13, 8, 1, -1);
        it.like(2, 5, -4);
        it.like(2, 6, 9);
        CHECK.due("like of both owners", it.wish(0, 2, 3, 3, 14, 9, 6, 7), 5);
    }

    private static void can(RoundAnothers it, int x, int y, int toX, int toY, int want) {
        CHECK.due("can " + x + " " + y + " " + toX + " " + toY, it.can(0, 0, x, y, toX, toY, 0, -1), want);
    }

    private static void rectangles() {
        RoundAnothers it = Check.object(PAIR, "far 1");
        can(it, 4, 4, 8, 8, 1);
        can(it, 5, 4, 8, 8, 0);
        can(it, 4, 5, 8, 8, 0);
        can(it, 4, 4, 7, 8, 0);
        can(it, 4, 4, 8, 7, 0);
        can(it, 0, 0, 8, 20, 1);
        can(it, -1, 0, 8, 8, 0);
        can(it, 0, -1, 8, 8, 0);
        can(it, 0, 0, 8, 21, 0);
        can(it, 4, 4, 9, 8, 1);
        can(it, 4, 4, 10, 8, 0);
        can(it, 4, 4, 13, 8, 0);
        can(it, 8, 8, 4, 4, 0);
        can(it, 4, 4, Integer.MIN_VALUE, 8, 0);
        can(it, Integer.MAX_VALUE, 4, 8, 8, 0);
        can(it, Integer.MIN_VALUE, Integer.MIN_VALUE, Integer.MAX_VALUE, Integer.MAX_VALUE, 0);
        it = Check.object("wide 10 10;house 5 5 7 7", "far 1");
        can(it, 4, 4, 10, 10, 1);
        can(it, 4, 4, 11, 10, 0);
        it.build(0, 1, 4, 4, 8, 8, 0, -1);
        can(it, 3, 3, 9, 9, 0);
        CHECK.due("round the outermost", it.can(0, 0, 3, 3, 9, 9, 6, -1), 1);
        CHECK.due("one's own", it.can(0, 1, 3, 3, 9, 9, 6, -1), 1);
    }

    private static void far() {
        RoundAnothers it = Check.object("house 8 8 10 10", "far 2");
        can(it, 7, 7, 11, 11, 0);
        can(it, 6, 6, 12, 12, 1);
        can(it, 6, 6, 12, 11, 0);
        can(it, 7, 6, 12, 12, 0);
        it = Check.object("house 8 8 10 10", "far 0");
        can(it, 8, 8, 10, 10, 0);
        can(it, 7, 7, 11, 11, 1);
        it = Check.object("house 8 8 10 10", "far 0 - 5");
        can(it, 8, 8, 10, 10, 0);
        can(it, 7, 7, 11, 11, 1);
        it = Check.object("wide 40 40;house 19 19 20 20", "far 99999 * 99999");
        can(it, 0, 0, 40, 40, 0);
        it = Check.object("house 8 8 10 10", "far 3 if width < 7;far 1 if width < 9;far 4");
        can(it, 6, 6, 12, 12, 0);
        can(it, 7, 7, 14, 11, 1);
        can(it, 7, 7, 16, 11, 0);
        can(it, 4, 4, 14, 14, 1);
        it = Check.object("house 8 8 10 10", "far 5 if 1 = 2");
        can(it, 7, 7, 11, 11, 1);
        it = Check.object("house 8 8 10 10", "join 1");
        can(it, 7, 7, 11, 11, 1);
    }

    private static void rivers() {
        RoundAnothers it = Check.object("house 5 5 7 7;river 0 10 20 11", "far 1");
        can(it, 4, 4, 8, 10, 1);
        can(it, 4, 4, 8, 11, 0);
        can(it, 0, 4, 20, 11, 1);
        can(it, 0, 4, 19, 11, 0);
        can(it, 1, 4, 20, 11, 0);
        it = Check.object("house 5 5 7 7;river 10 0 11 20", "far 1");
        can(it, 4, 4, 10, 8, 1);
        can(it, 4, 4, 11, 8, 0);
        can(it, 4, 0, 11, 20, 1);
        it = Check.object("house 5 5 7 7;river 10 0 12 20", "far 1");
        can(it, 4, 4, 11, 8, 0);
        can(it, 4, 4, 12, 8, 0);
        can(it, 4, 0, 12, 8, 0);
        can(it, 4, 0, 12, 20, 1);
        it = Check.object("wide 12 20;house 5 5 7 7;river 11 0 13 20", "far 1");
        can(it, 4, 0, 12, 20, 1);
        it = Check.object("house 5 5 7 7;river 2 2 3 3;river 3 3 4 4", "far 1");
        can(it, 3, 3, 8, 8, 1);
        it = Check.object("house 5 5 7 7;river 0 0 1 20;river 1 0 20 1", "far 1");
        can(it, 0, 4, 8, 8, 0);
        can(it, 1, 4, 8, 8, 1);
        can(it, 4, 0, 8, 8, 0);
        can(it, 4, 1, 8, 8, 1);
        // What a wider land had on its lines is gone with it.
        it = Check.object("wide 30 30;house 5 5 7 7;river 0 9 30 14;river 9 0 14 30", "far 1");
        can(it, 4, 4, 10, 8, 0);
        can(it, 4, 4, 8, 10, 0);
        Check.land(it, "wide 10 10;house 5 5 7 7;river 9 9 11 11");
        can(it, 4, 4, 10, 8, 1);
        can(it, 4, 4, 8, 10, 1);
        can(it, 0, 0, 10, 10, 1);
    }

    private static void joined() {
        RoundAnothers it = Check.object(PAIR + ";house 15 15 16 16", "join 1", "join 0", "far 2;join 1");
        CHECK.due("two", it.can(0, 0, 4, 4, 13, 8, 0, 1), 1);
        CHECK.due("two the other way", it.can(0, 0, 4, 4, 13, 8, 1, 0), 1);
        CHECK.due("two of which one is outside", it.can(0, 0, 4, 4, 12, 8, 0, 1), 0);
        CHECK.due("alike", it.can(0, 0, 4, 4, 8, 8, 0, 0), 0);
        CHECK.due("two without join", it.can(1, 0, 4, 4, 13, 8, 0, 1), 0);
        CHECK.due("two far 2", it.can(2, 0, 3, 3, 14, 9, 0, 1), 1);
        CHECK.due("two not far 2", it.can(2, 0, 3, 3, 13, 9, 0, 1), 0);
        CHECK.due("two with a third inside", it.can(0, 0, 4, 4, 17, 17, 0, 1), 0);
        CHECK.due("one and none such", it.can(0, 0, 4, 4, 8, 8, 0, 3), -1);
        it.build(0, 0, 4, 4, 8, 8, 0, -1);
        CHECK.due("two of which one is not outermost", it.can(0, 0, 3, 3, 13, 9, 6, 0), 0);
        CHECK.due("wall and house", it.can(0, 0, 3, 3, 13, 9, 6, 1), 1);
    }

    private static void mayAndNot() {
        RoundAnothers it = Check.object("house 8 8 10 10", "may width = 4;may height = 5;not long = 18");
        can(it, 7, 7, 11, 11, 1);
        can(it, 7, 7, 11, 12, 0);
        can(it, 7, 7, 13, 12, 1);
        can(it, 7, 7, 13, 13, 0);
        it = Check.object("house 8 8 10 10", "not width = 4;not width = 5");
        can(it, 7, 7, 11, 12, 0);
        can(it, 7, 7, 12, 12, 0);
        can(it, 7, 7, 13, 12, 1);
        it = Check.object("house 8 8 10 10", "not own > 0", "may year > 1");
        CHECK.due("year 0", it.can(1, 0, 7, 7, 11, 11, 0, -1), 0);
        it.build(0, 2, 7, 7, 11, 11, 0, -1);
        CHECK.due("has one", it.can(0, 2, 6, 6, 12, 12, 6, -1), 0);
        CHECK.due("has none", it.can(0, 1, 6, 6, 12, 12, 6, -1), 1);
    }

    private static void absent() {
        RoundAnothers it = Check.object(PAIR, "far 1");
        CHECK.due("law 1", it.can(1, 0, 4, 4, 8, 8, 0, -1), -1);
        CHECK.due("law -1", it.can(-1, 0, 4, 4, 8, 8, 0, -1), -1);
        CHECK.due("family 12", it.can(0, 12, 4, 4, 8, 8, 0, -1), -1);
        CHECK.due("family -1", it.can(0, -1, 4, 4, 8, 8, 0, -1), -1);
        CHECK.due("thing 2", it.can(0, 0, 4, 4, 8, 8, 2, -1), -1);
        CHECK.due("thing 6", it.can(0, 0, 4, 4, 8, 8, 6, -1), -1);
        CHECK.due("thing 30", it.can(0, 0, 4, 4, 8, 8, 30, -1), -1);
        CHECK.due("thing -1", it.can(0, 0, 4, 4, 8, 8, -1, -1), -1);
        CHECK.due("other -2", it.can(0, 0, 4, 4, 8, 8, 0, -2), -1);
        CHECK.due("other 30", it.can(0, 0, 4, 4, 8, 8, 0, 30), -1);
        CHECK.due("build law 1", it.build(1, 0, 4, 4, 8, 8, 0, -1), -1);
        CHECK.due("build family 12", it.build(0, 12, 4, 4, 8, 8, 0, -1), -1);
        CHECK.due("build thing 2", it.build(0, 0, 4, 4, 8, 8, 2, -1), -1);
        CHECK.due("build other 6", it.build(0, 0, 4, 4, 8, 8, 0, 6), -1);
        CHECK.due("nothing happened", it.count(3), 0);
    }

    private static void build() {
        RoundAnothers it = Check.object(PAIR, "far 1;join 1");
        CHECK.due("first", it.build(0, 3, 4, 4, 8, 8, 0, -1), 6);
        CHECK.due("can't", it.build(0, 3, 4, 4, 8, 8, 0, -1), -2);
        CHECK.due("walls", it.count(3), 1);
        CHECK.due("second", it.build(0, 4, 3, 3, 13, 9, 1, 6), 7);
        CHECK.due("round 0", it.thing(0, 5), 6);
        CHECK.due("round 1", it.thing(1, 5), 7);
        CHECK.due("round 6", it.thing(6, 5), 7);
        CHECK.due("round 7", it.thing(7, 5), -1);
        it = Check.object(PAIR, "far 1;join 1");
        it.build(0, 1, 4, 4, 8, 8, 0, -1);
        it.build(0, 1, 9, 4, 13, 8, 1, -1);
        it.build(0, 1, 3, 3, 14, 9, 7, 6);
        Check.wish(it, "want deep");
        Check.wish(it, "want own");
        CHECK.due("deep of both", it.thing(8, 6), 2);
        CHECK.due("deep of what would come", it.wish(0, 1, 2, 2, 15, 10, 8, -1), 3);
        CHECK.due("own of what would come", it.wish(1, 1, 2, 2, 15, 10, 8, -1), 3);
        CHECK.due("own of another", it.wish(1, 2, 2, 2, 15, 10, 8, -1), 0);
    }

    private static void noNumber() {
        RoundAnothers it = Check.object("wide 40 40;house 19 19 20 20;house 1 1 2 2;house 4 1 5 2;house 7 1 8 2;house 10 1 11 2;"
                + "house 13 1 14 2", "far 1");
        for (int i = 0; i < 16; i++) {
            CHECK.due("wall " + i, it.build(0, 0, 18 - i, 18 - i, 21 + i, 21 + i, i == 0 ? 0 : 5 + i, -1), 6 + i);
        }
        for (int i = 0; i < 5; i++) {
            CHECK.due("no room", it.build(0, 0, 3 * i, 0, 3 * i + 3, 3, i + 1, -1), -2);
        }
        it = Check.object("wide 40 40;house 3 3 4 4;house 11 3 12 4;house 19 3 20 4;house 27 3 28 4;house 35 3 36 4;"
                + "house 19 24 20 25", "far 1");
        int number = 6;
        for (int h = 0; h < 5; h++) {
            for (int i = 0; i < 3; i++) {
                int x = 3 + 8 * h;
                CHECK.due("wall", it.build(0, 0, x - 1 - i, 2 - i, x + 2 + i, 5 + i, i == 0 ? h : number - 1, -1), number);
                number++;
            }
        }
        for (int i = 0; i < 9; i++) {
            CHECK.due("wall", it.build(0, 0, 18 - i, 23 - i, 21 + i, 26 + i, i == 0 ? 5 : number - 1, -1), number);
            number++;
        }
        CHECK.due("all numbers", it.count(3), 24);
        CHECK.due("it can", it.can(0, 0, 9, 14, 30, 35, 29, -1), 1);
        CHECK.due("no number", it.build(0, 0, 9, 14, 30, 35, 29, -1), -2);
        it.pull(17);
        it.pull(8);
        CHECK.due("the least free one", it.build(0, 0, 9, 14, 30, 35, 29, -1), 8);
    }

    private static void wish() {
        RoundAnothers it = Check.object("house 5 5 7 7;house 14 14 15 16;worth 9 4 4 5 5;well 8 8;river 0 10 20 11", "far 1",
                "far 2;not long > 30;join 1");
        Check.wish(it, "want worth - long");
        CHECK.due("worth 20, long 16", it.wish(0, 0, 4, 4, 8, 8, 0, -1), 4);
        CHECK.due("whether it can or not", it.wish(0, 0, 4, 4, 8, 11, 0, -1), 10);
        CHECK.due("as far as the thing", it.wish(0, 0, 5, 5, 7, 7, 0, -1), -8);
        CHECK.due("not in it", it.wish(0, 0, 6, 5, 8, 8, 0, -1), 0);
        CHECK.due("beyond the land", it.wish(0, 0, -1, 4, 8, 8, 0, -1), 0);
        CHECK.due("beyond the land", it.wish(0, 0, 4, 4, 21, 8, 0, -1), 0);
        CHECK.due("alike", it.wish(0, 0, 4, 4, 8, 8, 0, 0), 0);
        CHECK.due("two", it.wish(0, 0, 4, 4, 16, 17, 0, 1), 158 - 50);
        CHECK.due("two, one not in it", it.wish(0, 0, 4, 4, 14, 17, 0, 1), 0);
        CHECK.due("no wish 1", it.wish(1, 0, 4, 4, 8, 8, 0, -1), 0);
        CHECK.due("no wish -1", it.wish(-1, 0, 4, 4, 8, 8, 0, -1), 0);
        CHECK.due("no family", it.wish(0, 12, 4, 4, 8, 8, 0, -1), 0);
        CHECK.due("no thing", it.wish(0, 0, 4, 4, 8, 8, 2, -1), 0);
        CHECK.due("no other", it.wish(0, 0, 4, 4, 8, 8, 0, 2), 0);
        it.build(0, 0, 4, 4, 8, 8, 0, -1);
        CHECK.due("not outermost", it.wish(0, 0, 3, 3, 9, 9, 0, -1), 0);
        CHECK.due("round the wall", it.wish(0, 0, 3, 3, 9, 9, 6, -1), 20 - 24);
    }

    private static void pull() {
        RoundAnothers it = Check.object(PAIR + ";house 5 10 6 11", "join 1");
        it.build(0, 1, 4, 4, 13, 8, 0, 1);
        it.build(0, 2, 3, 3, 14, 12, 6, 2);
        it.build(0, 3, 2, 2, 15, 13, 7, -1);
        it.gate(6, 1, 2, 30);
        it.key(6, 5, true);
        CHECK.due("deep of 8", it.thing(8, 6), 2);
        CHECK.due("no wall 9", it.pull(9), false);
        CHECK.due("a house", it.pull(0), false);
        CHECK.due("-1", it.pull(-1), false);
        CHECK.due("30", it.pull(30), false);
        CHECK.due("pull 6", it.pull(6), true);
        CHECK.due("again", it.pull(6), false);
        CHECK.due("walls", it.count(3), 2);
        for (int house = 0; house < 3; house++) {
            CHECK.due("round house " + house, it.thing(house, 5), 7);
        }
        CHECK.due("deep of 7", it.thing(7, 6), 0);
        CHECK.due("deep of 8", it.thing(8, 6), 1);
        CHECK.due("ground of 7", it.thing(7, 7), 11 * 9 - 4 - 4 - 1);
        CHECK.due("pull 8", it.pull(8), true);
        CHECK.due("7 is outermost", it.thing(7, 5), -1);
        CHECK.due("build 6", it.build(0, 4, 2, 2, 15, 13, 7, -1), 6);
        CHECK.due("deep of 6", it.thing(6, 6), 1);
        CHECK.due("its gate is gone", it.thing(6, 9), -1);
        CHECK.due("its keys are gone", it.key(6, 5, true), true);
        CHECK.due("pull 7", it.pull(7), true);
        CHECK.due("round house 2", it.thing(2, 5), 6);
        it.pull(6);
        CHECK.due("house 1 is outermost", it.thing(1, 5), -1);
        CHECK.due("nests", it.nests(0), 3);
    }

    private static void thing() {
        RoundAnothers it = Check.object("house 5 5 7 8;worth 3 5 5 6 6;worth 7 4 4 5 5", "far 1");
        it.build(0, 9, 4, 4, 8, 10, 0, -1);
        it.build(0, 2, 3, 3, 9, 11, 6, -1);
        it.gate(7, 1, 7, 250);
        int[] house = {5, 5, 7, 8, -1, 6, 0, 6, 8, -1, -1, -1};
        int[] inner = {4, 4, 8, 10, 9, 7, 0, 18, 24, -1, -1, -1};
        int[] outer = {3, 3, 9, 11, 2, -1, 1, 24, 24, 1, 7, 250};
        for (int what = 0; what < 12; what++) {
            CHECK.due("thing 0 " + what, it.thing(0, what), house[what]);
            CHECK.due("thing 6 " + what, it.thing(6, what), inner[what]);
            CHECK.due("thing 7 " + what, it.thing(7, what), outer[what]);
        }
        CHECK.due("thing 0 12", it.thing(0, 12), -2);
        CHECK.due("thing 0 -1", it.thing(0, -1), -2);
        CHECK.due("thing 1", it.thing(1, 0), -2);
        CHECK.due("thing 8", it.thing(8, 0), -2);
        CHECK.due("thing 30", it.thing(30, 0), -2);
        CHECK.due("thing -1", it.thing(-1, 0), -2);
    }

    private static void inside() {
        RoundAnothers it = Check.object(PAIR, "far 1");
        it.build(0, 0, 4, 4, 8, 8, 0, -1);
        it.build(0, 0, 3, 3, 9, 9, 6, -1);
        CHECK.due("0 in 6", it.inside(0, 6), 1);
        CHECK.due("0 in 7", it.inside(0, 7), 1);
        CHECK.due("6 in 7", it.inside(6, 7), 1);
        CHECK.due("7 in 6", it.inside(7, 6), 0);
        CHECK.due("1 in 7", it.inside(1, 7), 0);
        CHECK.due("6 in 0", it.inside(6, 0), 0);
        CHECK.due("6 in 6", it.inside(6, 6), 0);
        CHECK.due("2 in 6", it.inside(2, 6), -1);
        CHECK.due("0 in 8", it.inside(0, 8), -1);
        CHECK.due("-1 in 6", it.inside(-1, 6), -1);
        CHECK.due("0 in 30", it.inside(0, 30), -1);
    }
}
