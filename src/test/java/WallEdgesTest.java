/** How walls come and go (parts I and II, promises 6 to 10 and 13 to 15): each sentence that names an edge. */
public final class WallEdgesTest {
    private static final Check CHECK = new Check();
    private static final String HOUSE = "house 8 8 11 11";

    public static void main(String[] args) {
        like();
        likeTogether();
        inTheLand();
        far();
        farIsHeld();
        firstFar();
        clear();
        clearOfWalls();
        clearOfEach();
        riverLines();
        riverCorners();
        riversAtTheEdge();
        mayAndNot();
        oneOrTwo();
        farFromTwo();
        numbers();
        own();
        wordsOfTwo();
        wish();
        pulledOuter();
        pulledInner();
        pulledNumber();
        gateAndKeysAreGone();
        things();
        deep();
        ground();
        innermost();
        inside();
        CHECK.end();
    }

    /** Whether a wall can come round house 0 by law 0. */
    private static void can(RoundAnothers it, int x, int y, int toX, int toY, boolean want) {
        CHECK.due("can " + x + " " + y + " " + toX + " " + toY, it.can(0, 0, x, y, toX, toY, 0, -1), want ? 1 : 0);
    }

    private static void like() {
        CHECK.says("LIKE of one to another (-9 to 9; 0 at first).");
        RoundAnothers it = new RoundAnothers();
        CHECK.due("at first", it.like(0, 11, -9), 0);
        CHECK.due("-9", it.like(0, 11, 9), -9);
        CHECK.due("9", it.like(0, 11, 10), -100);
        CHECK.due("-10", it.like(0, 11, -10), -100);
        CHECK.due("as it was", it.like(0, 11, 0), 9);
        CHECK.due("the other way", it.like(11, 0, 1), 0);
        CHECK.due("to oneself", it.like(11, 11, 1), -100);
    }

    private static void likeTogether() {
        CHECK.says("like (LIKE of the builder to the OWNERS of what it is ROUND, together; 0 of a HOUSE)");
        RoundAnothers it = Check.object("house 5 5 7 7;house 12 5 14 7", "join 1");
        Check.wish(it, "want like");
        for (int other = 0; other < 12; other++) {
            it.like(2, other, -9);
        }
        CHECK.due("of a house", it.wish(0, 2, 3, 3, 9, 9, 0, -1), 0);
        CHECK.due("of two houses", it.wish(0, 2, 3, 3, 16, 9, 0, 1), 0);
        it.build(0, 0, 4, 4, 8, 8, 0, -1);
        CHECK.due("of a wall", it.wish(0, 2, 3, 3, 9, 9, 6, -1), -9);
        CHECK.due("of a wall and a house", it.wish(0, 2, 3, 3, 16, 9, 6, 1), -9);
        it.build(0, 11, 11, 4, 15, 8, 1, -1);
        CHECK.due("of two walls", it.wish(0, 2, 3, 3, 16, 9, 6, 7), -18);
        CHECK.due("to oneself and another", it.wish(0, 11, 3, 3, 16, 9, 6, 7), 0);
        it.like(2, 11, 9);
        CHECK.due("of two walls", it.wish(0, 2, 3, 3, 16, 9, 7, 6), 0);
        it.like(0, 11, 5);
        CHECK.due("to oneself and another", it.wish(0, 0, 3, 3, 16, 9, 6, 7), 5);
    }

    private static void inTheLand() {
        CHECK.says("A WALL CAN come by a LAW: its rectangle lies in the LAND");
        RoundAnothers it = Check.object(HOUSE + ";wide 16 18", "far 1");
        can(it, 0, 0, 16, 18, true);
        can(it, -1, 0, 16, 18, false);
        can(it, 0, -1, 16, 18, false);
        can(it, 0, 0, 17, 18, false);
        can(it, 0, 0, 16, 19, false);
        can(it, Integer.MIN_VALUE, 0, 16, 18, false);
        can(it, 0, Integer.MIN_VALUE, 16, 18, false);
        can(it, 0, 0, Integer.MAX_VALUE, 18, false);
        can(it, 0, 0, 16, Integer.MAX_VALUE, false);
        can(it, 16, 18, 0, 0, false);
        can(it, 16, 0, 0, 18, false);
        can(it, 9, 9, 9, 9, false);
        CHECK.due("build beyond the land", it.build(0, 0, -1, 0, 16, 18, 0, -1), -2);
        CHECK.due("build on all of the land", it.build(0, 0, 0, 0, 16, 18, 0, -1), 6);
        CHECK.due("free", it.nests(1), 0);
    }

    private static void far() {
        CHECK.says("whose rectangles it ends beyond by at least FAR on each of the four sides");
        for (int n = 1; n <= 8; n++) {
            RoundAnothers it = Check.object(HOUSE, "far " + n);
            can(it, 8 - n, 8 - n, 11 + n, 11 + n, true);
            can(it, 9 - n, 8 - n, 11 + n, 11 + n, false);
            can(it, 8 - n, 9 - n, 11 + n, 11 + n, false);
            can(it, 8 - n, 8 - n, 10 + n, 11 + n, false);
            can(it, 8 - n, 8 - n, 11 + n, 10 + n, false);
            can(it, 0, 0, 20, 20, true);
        }
        RoundAnothers it = Check.object(HOUSE, "far 9");
        can(it, 0, 0, 20, 20, false);
    }

    private static void farIsHeld() {
        CHECK.says("held to 1 to 40");
        String[] low = {"0", "0-1", "1", "1/2", "own", "32768*32768*32768*32768*8", "0-32768*32768*4+2"};
        for (String sum : low) {
            RoundAnothers it = Check.object(HOUSE, "far " + sum);
            can(it, 7, 7, 12, 12, true);
            can(it, 8, 7, 12, 12, false);
            can(it, 8, 8, 11, 11, false);
        }
        String[] high = {"40", "41", "99999", "32768*32768*4", "32768*32768*4+1", "32768*32768*32768*32768*8-1"};
        for (String sum : high) {
            RoundAnothers it = Check.object("wide 40 40;house 19 19 21 21", "far " + sum);
            can(it, 0, 0, 40, 40, false);
        }
        RoundAnothers it = Check.object("wide 40 40;house 19 19 21 21", "far 19");
        can(it, 0, 0, 40, 40, true);
        can(it, 1, 0, 40, 40, false);
    }

    private static void firstFar() {
        CHECK.says("FAR: the SUM of the first far CLAUSE without a TEST, or whose TEST holds (1 without)");
        String[] laws = {"far 3;far 1", "far 5 if 1=2;far 3;far 1", "far 3 if 1=1;far 1", "far 5 if 1=2;far 3 if 1=1;far 1 if 1=1",
            "not 1=2;far 3;may 1=1"};
        for (String law : laws) {
            RoundAnothers it = Check.object(HOUSE, law);
            can(it, 5, 5, 14, 14, true);
            can(it, 6, 6, 13, 13, false);
        }
        for (String law : new String[] {"far 3 if 1=2", "join 1", "may 1=1", "far 3 if 1=2;far 5 if 1=2"}) {
            RoundAnothers it = Check.object(HOUSE, law);
            can(it, 7, 7, 12, 12, true);
            can(it, 8, 7, 12, 12, false);
        }
        // The test is of the wall as it would be.
        RoundAnothers it = Check.object(HOUSE, "far 3 if width <= 8;far 1");
        can(it, 7, 7, 15, 12, false);
        can(it, 7, 7, 16, 12, true);
    }

    /** Four houses about one, and one off each of its corners: three cells from it each. */
    private static void clear() {
        CHECK.says("it is CLEAR of all other OUTERMOST THINGS");
        RoundAnothers it = Check.object(HOUSE + ";house 3 8 5 11;house 14 8 16 11;house 8 3 11 5;house 8 14 11 16", "far 1");
        can(it, 6, 6, 13, 13, true);
        can(it, 5, 6, 13, 13, false);
        can(it, 6, 5, 13, 13, false);
        can(it, 6, 6, 14, 13, false);
        can(it, 6, 6, 13, 14, false);
        it = Check.object(HOUSE + ";house 3 3 5 5;house 14 3 16 5;house 3 14 5 16;house 14 14 16 16", "far 1");
        can(it, 6, 0, 13, 20, true);
        can(it, 0, 6, 20, 13, true);
        can(it, 5, 5, 13, 13, false);
        can(it, 6, 5, 14, 13, false);
        can(it, 5, 6, 13, 14, false);
        can(it, 6, 6, 14, 14, false);
        can(it, 0, 0, 20, 20, false);
    }

    private static void clearOfWalls() {
        CHECK.says("it is CLEAR of all other OUTERMOST THINGS");
        RoundAnothers it = Check.object("house 3 8 5 11;house 12 8 14 11", "far 1");
        it.build(0, 0, 10, 6, 16, 13, 1, -1);
        can(it, 2, 7, 9, 12, true);
        can(it, 2, 7, 10, 12, false);
        it.pull(6);
        can(it, 2, 7, 11, 12, true);
        can(it, 2, 7, 12, 12, false);
        CHECK.due("one's own wall is not in the way", it.build(0, 0, 2, 7, 7, 12, 0, -1), 6);
        CHECK.due("nor what lies in it", it.can(0, 0, 1, 6, 8, 13, 6, -1), 1);
    }

    /** Each house in turn has the wall, each other one is in its way. */
    private static void clearOfEach() {
        CHECK.says("it is CLEAR of all other OUTERMOST THINGS");
        for (int i = 0; i < 6; i++) {
            for (int other = 0; other < 6; other++) {
                StringBuilder land = new StringBuilder("wide 40 40");
                for (int h = 0; h < 6; h++) {
                    int x = h == i ? 10 : h == other ? 15 : 30;
                    int y = h == i || h == other ? 10 : 4 * h + 2;
                    land.append(";house ").append(x).append(' ').append(y).append(' ').append(x + 1).append(' ').append(y + 1);
                }
                RoundAnothers it = Check.object(land.toString(), "far 1");
                CHECK.due("houses", it.count(2), 6);
                CHECK.due("clear of " + other, it.can(0, 0, 9, 9, 14, 12, i, -1), 1);
                CHECK.due("not clear of " + other, it.can(0, 0, 9, 9, 15, 12, i, -1), i == other ? 1 : 0);
            }
        }
    }

    /** A wall from 6 to 13 on all sides, and a river of two cells across each piece of its line, and beside it. */
    private static void riverLines() {
        CHECK.says("no piece of its line (a side of a CELL) has RIVERS on both sides");
        for (int at = 4; at < 16; at++) {
            boolean beside = at < 6 || at > 12;
            river(at + " 5 " + (at + 1) + " 7", beside);
            river(at + " 12 " + (at + 1) + " 14", beside);
            river("5 " + at + " 7 " + (at + 1), beside);
            river("12 " + at + " 14 " + (at + 1), beside);
        }
        river("0 5 20 6", true);
        river("6 6 13 7", true);
        river("6 12 13 13", true);
        river("0 13 20 14", true);
        river("5 0 6 20", true);
        river("13 0 14 20", true);
        river("0 6 20 7", false);
        river("6 0 7 20", false);
        river("7 7 12 12", true);
        river("6 6 13 13", true);
        river("0 0 20 20", false);
        // Along the land's edge there is nothing on the other side.
        RoundAnothers it = Check.object("wide 10 10;river 0 0 10 10;house 4 4 6 6", "far 1");
        can(it, 0, 0, 10, 10, true);
        can(it, 1, 0, 10, 10, false);
        can(it, 0, 1, 10, 10, false);
        can(it, 0, 0, 9, 10, false);
        can(it, 0, 0, 10, 9, false);
    }

    private static void river(String area, boolean want) {
        RoundAnothers it = Check.object(HOUSE + ";river " + area, "far 1");
        CHECK.due("can with a river " + area, it.can(0, 0, 6, 6, 13, 13, 0, -1), want ? 1 : 0);
    }

    private static void riverCorners() {
        CHECK.says("no piece of its line (a side of a CELL) has RIVERS on both sides");
        for (int x : new int[] {5, 12}) {
            for (int y : new int[] {5, 12}) {
                RoundAnothers it = Check.object(HOUSE + ";river " + x + " " + y + " " + (x + 1) + " " + (y + 1)
                        + ";river " + (x + 1) + " " + (y + 1) + " " + (x + 2) + " " + (y + 2), "far 1");
                can(it, 6, 6, 13, 13, true);
                it = Check.object(HOUSE + ";river " + (x + 1) + " " + y + " " + (x + 2) + " " + (y + 1)
                        + ";river " + x + " " + (y + 1) + " " + (x + 1) + " " + (y + 2), "far 1");
                can(it, 6, 6, 13, 13, true);
            }
        }
    }

    /** Walls that reach to the land's edge, and rivers across the first and last pieces of their lines. */
    private static void riversAtTheEdge() {
        CHECK.says("no piece of its line (a side of a CELL) has RIVERS on both sides");
        String[] rivers = {"0 5 1 7", "19 5 20 7", "0 12 1 14", "19 12 20 14"};
        for (String area : rivers) {
            RoundAnothers it = Check.object(HOUSE + ";river " + area, "far 1");
            can(it, 0, 6, 20, 13, false);
            can(it, 1, 6, 19, 13, true);
        }
        rivers = new String[] {"5 0 7 1", "5 19 7 20", "12 0 14 1", "12 19 14 20"};
        for (String area : rivers) {
            RoundAnothers it = Check.object(HOUSE + ";river " + area, "far 1");
            can(it, 6, 0, 13, 20, false);
            can(it, 6, 1, 13, 19, true);
        }
    }

    private static void mayAndNot() {
        CHECK.says("some may TEST holds (if there are any), and no not TEST");
        String[] laws = {"far 1", "may 1=1", "may 1=2", "may 1=2;may 1=1", "may 1=1;may 1=2", "may 1=2;may 1=2", "not 1=2", "not 1=1",
            "not 1=2;not 1=1", "not 1=1;not 1=2", "may 1=1;not 1=2", "may 1=1;not 1=1", "not 1=1;may 1=1", "not 1=2;may 1=2"};
        int[] want = {1, 1, 0, 1, 1, 0, 1, 0, 0, 0, 1, 0, 0, 0};
        for (int i = 0; i < laws.length; i++) {
            CHECK.due("can by '" + laws[i] + "'", Check.object(HOUSE, laws[i]).can(0, 0, 7, 7, 12, 12, 0, -1), want[i]);
        }
    }

    private static void oneOrTwo() {
        CHECK.says("it is ROUND one OUTERMOST THING, or two unlike ones if join is 1");
        RoundAnothers it = Check.object("house 5 5 7 7;house 10 5 12 7;house 16 16 17 17", "join 1", "join 0");
        CHECK.due("one", it.can(0, 0, 4, 4, 8, 8, 0, -1), 1);
        CHECK.due("two", it.can(0, 0, 4, 4, 13, 8, 0, 1), 1);
        CHECK.due("two without join", it.can(1, 0, 4, 4, 13, 8, 0, 1), 0);
        CHECK.due("one with the other in it", it.can(0, 0, 4, 4, 13, 8, 0, -1), 0);
        CHECK.due("alike", it.can(0, 0, 4, 4, 8, 8, 0, 0), 0);
        CHECK.due("alike, without join", it.can(1, 0, 4, 4, 8, 8, 0, 0), 0);
        CHECK.due("build alike", it.build(0, 0, 4, 4, 8, 8, 0, 0), -2);
        CHECK.due("two with a third in it", it.can(0, 0, 4, 4, 18, 18, 0, 1), 0);
        it.build(0, 0, 4, 4, 8, 8, 0, -1);
        CHECK.due("not outermost", it.can(0, 0, 3, 3, 9, 9, 0, -1), 0);
        CHECK.due("the first is not outermost", it.can(0, 0, 3, 3, 13, 9, 0, 1), 0);
        CHECK.due("the second is not outermost", it.can(0, 0, 3, 3, 13, 9, 1, 0), 0);
        CHECK.due("a wall and what it is round", it.can(0, 0, 3, 3, 9, 9, 6, 0), 0);
        CHECK.due("a wall and a house", it.can(0, 0, 3, 3, 13, 9, 6, 1), 1);
        CHECK.due("a house and a wall", it.build(0, 0, 3, 3, 13, 9, 1, 6), 7);
        CHECK.due("round the house", it.thing(1, 5), 7);
        CHECK.due("round the wall", it.thing(6, 5), 7);
    }

    private static void farFromTwo() {
        CHECK.says("whose rectangles it ends beyond by at least FAR on each of the four sides");
        RoundAnothers it = Check.object("house 5 9 7 11;house 10 6 12 8", "far 2;join 1");
        for (int turn = 0; turn < 2; turn++) {
            CHECK.due("just far", it.can(0, 0, 3, 4, 14, 13, turn, 1 - turn), 1);
            CHECK.due("left", it.can(0, 0, 4, 4, 14, 13, turn, 1 - turn), 0);
            CHECK.due("up", it.can(0, 0, 3, 5, 14, 13, turn, 1 - turn), 0);
            CHECK.due("right", it.can(0, 0, 3, 4, 13, 13, turn, 1 - turn), 0);
            CHECK.due("down", it.can(0, 0, 3, 4, 14, 12, turn, 1 - turn), 0);
        }
    }

    private static void numbers() {
        CHECK.says("and WALLS 6 to 29");
        RoundAnothers it = Check.full("far 1");
        CHECK.due("walls", it.count(3), 24);
        for (int wall = 6; wall < 30; wall++) {
            CHECK.due("wall " + wall, it.thing(wall, 4), wall < 21 ? (wall - 6) / 3 : 11);
        }
        CHECK.due("thing 30", it.thing(30, 0), -2);
        CHECK.says("-2, and nothing happens: it can't, or there is no number");
        long before = Check.print(it);
        CHECK.due("it can", it.can(0, 0, 9, 14, 30, 35, 29, -1), 1);
        CHECK.due("no number", it.build(0, 0, 9, 14, 30, 35, 29, -1), -2);
        CHECK.due("nothing happens", Check.print(it), before);
        CHECK.due("without these", it.build(1, 0, 9, 14, 30, 35, 29, -1), -1);
        it.pull(29);
        CHECK.due("the last number", it.build(0, 0, 9, 14, 30, 35, 28, -1), 29);
    }

    private static void own() {
        CHECK.says("own (WALLS that the builder has by now)");
        RoundAnothers it = Check.full("far 1;join 1");
        Check.wish(it, "want own");
        CHECK.due("family 0", it.wish(0, 0, 9, 14, 30, 35, 29, -1), 3);
        CHECK.due("family 5", it.wish(0, 5, 9, 14, 30, 35, 29, -1), 0);
        CHECK.due("family 11", it.wish(0, 11, 9, 14, 30, 35, 29, -1), 9);
        it.pull(29);
        CHECK.due("one less", it.wish(0, 11, 10, 15, 29, 34, 28, -1), 8);
        it.build(0, 11, 10, 15, 29, 34, 28, -1);
        CHECK.due("one more", it.wish(0, 11, 9, 14, 30, 35, 29, -1), 9);
    }

    private static void wordsOfTwo() {
        CHECK.says("two (1 if it is ROUND two, else 0)");
        RoundAnothers it = Check.object("house 5 5 7 7;house 12 5 14 7;worth 9 5 5 6 6;worth 8 12 5 13 6;worth 50 3 3 4 4;well 5 5;"
                + "well 12 5;well 3 3;river 6 6 7 7;river 13 6 14 7;river 15 8 16 9", "join 1");
        Check.wish(it, "want two");
        Check.wish(it, "want worth");
        Check.wish(it, "want wells");
        Check.wish(it, "want river");
        Check.wish(it, "want ground");
        Check.wish(it, "want deep");
        long[] houses = {1, 78 - 8 + 49, 1, 1, 78 - 8, 0};
        for (int wish = 0; wish < 6; wish++) {
            CHECK.due("wish " + wish + " of two houses", it.wish(wish, 0, 3, 3, 16, 9, 0, 1), houses[wish]);
            CHECK.due("wish " + wish + " of two houses", it.wish(wish, 0, 3, 3, 16, 9, 1, 0), houses[wish]);
        }
        CHECK.due("round one", it.wish(0, 0, 3, 3, 16, 9, 0, -1), 0);
        CHECK.due("ground round one", it.wish(4, 0, 3, 3, 16, 9, 0, -1), 74);
        it.build(0, 0, 4, 4, 8, 8, 0, -1);
        it.build(0, 0, 11, 4, 15, 8, 1, -1);
        long[] walls = {1, 78 - 32 + 49, 1, 1, 78 - 32, 2};
        for (int wish = 0; wish < 6; wish++) {
            CHECK.due("wish " + wish + " of two walls", it.wish(wish, 0, 3, 3, 16, 9, 6, 7), walls[wish]);
        }
        it.build(0, 0, 3, 3, 9, 9, 6, -1);
        CHECK.due("deep of a wall with one in it and another", it.wish(5, 0, 2, 2, 17, 10, 8, 7), 3);
        CHECK.due("the other way", it.wish(5, 0, 2, 2, 17, 10, 7, 8), 3);
    }

    private static void wish() {
        CHECK.says("WISH for it, whether it CAN come or not");
        RoundAnothers it = Check.object("house 8 8 11 11;house 14 8 16 11;river 0 6 20 8", "far 3;not 1=1");
        Check.wish(it, "want 1000 + ground");
        CHECK.due("nearer than far", it.wish(0, 0, 7, 7, 12, 12, 0, -1), 1016);
        CHECK.due("as large as the thing", it.wish(0, 0, 8, 8, 11, 11, 0, -1), 1000);
        CHECK.due("not clear", it.wish(0, 0, 7, 7, 15, 12, 0, -1), 1000 + 40 - 9);
        CHECK.due("two without join", it.wish(0, 0, 7, 7, 17, 12, 0, 1), 1000 + 50 - 15);
        CHECK.says("or if the rectangle doesn't lie in the LAND, has not the THINGS in it, or they are alike, or not OUTERMOST");
        CHECK.due("all of the land", it.wish(0, 0, 0, 0, 20, 20, 0, -1), 1391);
        CHECK.due("left of the land", it.wish(0, 0, -1, 0, 20, 20, 0, -1), 0);
        CHECK.due("above the land", it.wish(0, 0, 0, -1, 20, 20, 0, -1), 0);
        CHECK.due("right of the land", it.wish(0, 0, 0, 0, 21, 20, 0, -1), 0);
        CHECK.due("below the land", it.wish(0, 0, 0, 0, 20, 21, 0, -1), 0);
        CHECK.due("not in it, left", it.wish(0, 0, 9, 8, 11, 11, 0, -1), 0);
        CHECK.due("not in it, above", it.wish(0, 0, 8, 9, 11, 11, 0, -1), 0);
        CHECK.due("not in it, right", it.wish(0, 0, 8, 8, 10, 11, 0, -1), 0);
        CHECK.due("not in it, below", it.wish(0, 0, 8, 8, 11, 10, 0, -1), 0);
        CHECK.due("the second in it", it.wish(0, 0, 8, 8, 16, 11, 0, 1), 1009);
        CHECK.due("the second not in it", it.wish(0, 0, 8, 8, 15, 11, 0, 1), 0);
        CHECK.due("the first not in it", it.wish(0, 0, 9, 8, 16, 11, 0, 1), 0);
        CHECK.due("alike", it.wish(0, 0, 7, 7, 12, 12, 0, 0), 0);
        Check.law(it, "far 1");
        Check.land(it, "house 8 8 11 11;house 14 8 16 11");
        it.build(1, 0, 7, 7, 12, 12, 0, -1);
        CHECK.due("not outermost", it.wish(0, 0, 6, 6, 13, 13, 0, -1), 0);
        CHECK.due("the first not outermost", it.wish(0, 0, 6, 6, 17, 13, 0, 1), 0);
        CHECK.due("the second not outermost", it.wish(0, 0, 6, 6, 17, 13, 1, 0), 0);
        CHECK.due("outermost", it.wish(0, 0, 6, 6, 13, 13, 6, -1), 1024);
    }

    /** Walls 6 and 7 round a house each, 8 round both of them, 9 round 8. */
    private static RoundAnothers nest() {
        RoundAnothers it = Check.object("house 5 5 7 7;house 12 5 14 7", "join 1");
        it.build(0, 1, 4, 4, 8, 8, 0, -1);
        it.build(0, 2, 11, 4, 15, 8, 1, -1);
        it.build(0, 3, 3, 3, 16, 9, 6, 7);
        it.build(0, 4, 2, 2, 17, 10, 8, -1);
        return it;
    }

    private static void pulledOuter() {
        CHECK.says("PULLED: a WALL is gone: what it was ROUND is ROUND by nothing");
        RoundAnothers it = nest();
        CHECK.due("the outermost", it.pull(9), true);
        CHECK.due("8 is outermost", it.thing(8, 5), -1);
        CHECK.due("9 is gone", it.thing(9, 0), -2);
        CHECK.due("8", it.pull(8), true);
        CHECK.due("6 is outermost", it.thing(6, 5), -1);
        CHECK.due("7 is outermost", it.thing(7, 5), -1);
        CHECK.due("nests", it.nests(0), 2);
        CHECK.due("free", it.nests(1), 400 - 32);
    }

    private static void pulledInner() {
        CHECK.says("or by what was ROUND it, in its place (that can be more than two then)");
        RoundAnothers it = nest();
        CHECK.due("8", it.pull(8), true);
        CHECK.due("9 is round 6", it.thing(6, 5), 9);
        CHECK.due("9 is round 7", it.thing(7, 5), 9);
        CHECK.due("deep of 9", it.thing(9, 6), 2);
        CHECK.due("ground of 9", it.thing(9, 7), 120 - 32);
        CHECK.due("6", it.pull(6), true);
        CHECK.due("9 is round house 0", it.thing(0, 5), 9);
        CHECK.due("deep of 9", it.thing(9, 6), 1);
        CHECK.due("ground of 9", it.thing(9, 7), 120 - 16 - 4);
        it = Check.object("house 3 5 4 6;house 6 5 7 6;house 12 5 13 6;house 15 5 16 6", "join 1");
        it.build(0, 1, 2, 4, 8, 7, 0, 1);
        it.build(0, 1, 11, 4, 17, 7, 2, 3);
        it.build(0, 1, 1, 3, 18, 8, 6, 7);
        it.pull(6);
        it.pull(7);
        for (int house = 0; house < 4; house++) {
            CHECK.due("8 is round house " + house, it.thing(house, 5), 8);
        }
        CHECK.due("ground of 8", it.thing(8, 7), 85 - 4);
        CHECK.due("deep of 8", it.thing(8, 6), 0);
        CHECK.due("8", it.pull(8), true);
        CHECK.due("nests", it.nests(0), 4);
    }

    private static void pulledNumber() {
        CHECK.says("Its number comes again only if it is the least that is free.");
        RoundAnothers it = nest();
        it.pull(8);
        it.pull(6);
        CHECK.due("6 comes first", it.build(0, 0, 1, 1, 18, 11, 9, -1), 6);
        CHECK.due("then 8", it.build(0, 0, 0, 0, 19, 12, 6, -1), 8);
        it.pull(8);
        it.pull(6);
        it.pull(9);
        CHECK.due("6 again", it.build(0, 0, 4, 4, 8, 8, 0, -1), 6);
        CHECK.due("8, as 7 is there", it.build(0, 0, 3, 3, 9, 9, 6, -1), 8);
        CHECK.due("9", it.build(0, 0, 2, 2, 10, 10, 8, -1), 9);
    }

    private static void gateAndKeysAreGone() {
        CHECK.says("Its GATE, KEYS are gone.");
        RoundAnothers it = nest();
        it.gate(9, 0, 3, 7);
        for (int family = 0; family < 12; family++) {
            CHECK.due("a key", it.key(9, family, true), true);
        }
        it.pull(9);
        CHECK.due("the same wall", it.build(0, 4, 2, 2, 17, 10, 8, -1), 9);
        for (int what = 9; what < 12; what++) {
            CHECK.due("no gate", it.thing(9, what), -1);
        }
        for (int family = 0; family < 12; family++) {
            CHECK.due("no key", it.key(9, family, false), false);
        }
    }

    private static void things() {
        CHECK.says("4: OWNER (NONE: a HOUSE), 5: what is ROUND it (NONE: OUTERMOST), 6: DEEP, 7: CELLS of its GROUND (all of a HOUSE), "
                + "8: their WORTH");
        RoundAnothers it = nest();
        int[] house = {5, 5, 7, 7, -1, 6, 0, 4, 4, -1, -1, -1};
        int[] outer = {2, 2, 17, 10, 4, -1, 3, 120 - 78, 120 - 78, -1, -1, -1};
        for (int what = 0; what < 12; what++) {
            CHECK.due("house 0, " + what, it.thing(0, what), house[what]);
            CHECK.due("wall 9, " + what, it.thing(9, what), outer[what]);
        }
        it.gate(9, 0, 0, 0);
        for (int what = 9; what < 12; what++) {
            CHECK.due("a gate all 0, " + what, it.thing(9, what), 0);
        }
    }

    private static void deep() {
        CHECK.says("DEEP of a WALL: how many WALLS lie IN it.");
        RoundAnothers it = Check.full("far 1");
        for (int wall = 21; wall < 30; wall++) {
            CHECK.due("deep of " + wall, it.thing(wall, 6), wall - 21);
        }
        it.pull(25);
        for (int wall = 21; wall < 30; wall++) {
            CHECK.due("deep of " + wall, it.thing(wall, 6), wall == 25 ? -2 : wall < 25 ? wall - 21 : wall - 22);
        }
        it = nest();
        int[] want = {0, 0, 2, 3};
        for (int wall = 6; wall < 10; wall++) {
            CHECK.due("deep of " + wall, it.thing(wall, 6), want[wall - 6]);
        }
        Check.wish(it, "want deep");
        CHECK.due("deep of one that would come", it.wish(0, 0, 1, 1, 18, 11, 9, -1), 4);
    }

    private static void ground() {
        CHECK.says("GROUND of a WALL: CELLS of its rectangle in none of what it is ROUND.");
        RoundAnothers it = Check.object("house 5 5 7 7;house 12 5 14 7;worth 10 4 4 5 5;worth 20 5 5 6 6;worth 30 3 3 4 4", "join 1");
        it.build(0, 1, 4, 4, 8, 8, 0, -1);
        it.build(0, 1, 3, 3, 15, 9, 6, 1);
        CHECK.due("ground of 6", it.thing(6, 7), 12);
        CHECK.due("worth of 6", it.thing(6, 8), 21);
        CHECK.due("ground of 7", it.thing(7, 7), 72 - 16 - 4);
        CHECK.due("worth of 7", it.thing(7, 8), 52 + 29);
        CHECK.due("worth of the house", it.thing(0, 8), 23);
    }

    private static void innermost() {
        CHECK.says("3: the innermost THING that has it (NONE)");
        RoundAnothers it = nest();
        int[][] cells = {{5, 5, 0}, {6, 6, 0}, {7, 6, 6}, {6, 7, 6}, {4, 4, 6}, {7, 7, 6}, {8, 7, 8}, {7, 8, 8}, {3, 3, 8}, {15, 8, 8},
            {16, 8, 9}, {15, 9, 9}, {2, 2, 9}, {16, 9, 9}, {17, 9, -1}, {16, 10, -1}, {1, 2, -1}, {2, 1, -1}, {13, 6, 1}, {14, 6, 7}};
        for (int[] c : cells) {
            CHECK.due("thing at " + c[0] + " " + c[1], it.cell(c[0], c[1], 3), c[2]);
        }
    }

    private static void inside() {
        CHECK.says("One lies IN another one, if that is ROUND it, or ROUND one that it lies IN.");
        RoundAnothers it = nest();
        int[] all = {0, 1, 6, 7, 8, 9};
        String[] in = {"6 8 9", "7 8 9", "8 9", "8 9", "9", ""};
        for (int i = 0; i < all.length; i++) {
            for (int other : all) {
                CHECK.due(all[i] + " in " + other, it.inside(all[i], other), in[i].indexOf((char) ('0' + other)) >= 0 ? 1 : 0);
            }
        }
    }
}
