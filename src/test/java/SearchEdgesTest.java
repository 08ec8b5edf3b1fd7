/** The document's part III, and promises 16 to 21: each sentence that names an edge, on both sides of it. */
public final class SearchEdgesTest {
    private static final Check CHECK = new Check();
    private static final String HOUSE = "house 9 9 11 11";
    private static final String LEAST_NUMBER = "32768*32768*32768*32768*8";

    public static void main(String[] args) {
        margins();
        bestMargins();
        bestNone();
        bestTies();
        bestFirst();
        bestExtremes();
        bestOfTwo();
        bestWithoutNumbers();
        aheadMargins();
        aheadOthers();
        aheadNone();
        aheadBelow();
        aheadLeavesAll();
        least();
        mostMargins();
        mostWalls();
        mostWithoutNumbers();
        mostLeavesAll();
        nests();
        nestsWithoutHouses();
        familiesWithout();
        between();
        betweenOthers();
        CHECK.end();
    }

    private static void best(String name, RoundAnothers it, int m, int... want) {
        for (int what = 0; what < want.length; what++) {
            CHECK.due("best " + name + ", m " + m + ", " + what, it.best(0, 0, 0, 0, -1, m, what), want[what]);
        }
    }

    private static RoundAnothers object(String land, String law, String wish) {
        RoundAnothers it = Check.object(land, law);
        CHECK.due("wish '" + wish + "'", Check.wish(it, wish), 0);
        return it;
    }

    private static void margins() {
        CHECK.says("By MARGINS l, u, r, d (left, up, right, down; from 1 on) a rectangle beyond that of a THING");
        // One margin is wanted, and the others as small as can be.
        String[] wishes = {"want 100 if width * height = 5 * 4;want 0 - long", "want 100 if width = 5;want 0 - long"};
        for (String wish : wishes) {
            best("from 1 on", object(HOUSE, "far 1", wish), 1, 1, 1, 1, 1, 1);
        }
        RoundAnothers it = object("house 9 9 11 11;worth 90 6 0 7 20", "far 1", "want worth - ground");
        best("left", it, 4, 3, 4, 1, 4);
        it = object("house 9 9 11 11;worth 90 0 6 20 7", "far 1", "want worth - ground");
        best("up", it, 4, 4, 3, 4, 1);
        it = object("house 9 9 11 11;worth 90 13 0 14 20", "far 1", "want worth - ground");
        best("right", it, 4, 1, 4, 3, 4);
        it = object("house 9 9 11 11;worth 90 0 13 20 14", "far 1", "want worth - ground");
        best("down", it, 4, 4, 1, 4, 3);
    }

    private static void bestMargins() {
        CHECK.says("by a LAW and a WISH, m (1 to 4): of all MARGINS up to m by which a WALL CAN come");
        RoundAnothers it = object(HOUSE, "far 1", "want ground");
        for (int m = 1; m <= 4; m++) {
            best("the widest", it, m, m, m, m, m, m * m * m * m);
        }
        best("m 0", it, 0, -1, -1, -1, -1, -1);
        best("m 5", it, 5, -1, -1, -1, -1, -1);
        for (int far = 2; far <= 4; far++) {
            it = object(HOUSE, "far " + far, "want 1");
            best("too near", it, far - 1, -2, -2, -2, -2, 0);
            best("just far", it, far, far, far, far, far, 1);
        }
        it = object(HOUSE, "far 5", "want 1");
        best("beyond all", it, 4, -2, -2, -2, -2, 0);
        // Only so much room as the land has.
        it = object("wide 10 10;house 3 2 7 9", "far 1", "want ground");
        best("to the land's edge", it, 4, 3, 2, 3, 1, 3 * 2 * 3);
    }

    private static void bestNone() {
        CHECK.says("BEST what 0 to 3: l, u, r, d, 4: how many MARGINS a WALL CAN come by. -2: none; NONE without these (0 to 3).");
        RoundAnothers it = object(HOUSE, "not long > 0", "want 1");
        best("none", it, 4, -2, -2, -2, -2, 0, -1);
        CHECK.due("what -1", it.best(0, 0, 0, 0, -1, 4, -1), -1);
        it = object(HOUSE, "not long > 16", "want 1");
        best("one alone", it, 4, 1, 1, 1, 1, 1, -1);
        it = object("house 0 9 2 11", "far 1", "want 1");
        best("at the land's edge", it, 4, -2, -2, -2, -2, 0);
        it = object(HOUSE, "join 1", "want 1");
        CHECK.due("alike", it.best(0, 0, 0, 0, 0, 1, 0), -2);
        CHECK.due("how many alike", it.best(0, 0, 0, 0, 0, 1, 4), 0);
        it.build(0, 0, 8, 8, 12, 12, 0, -1);
        CHECK.due("not outermost", it.best(0, 0, 0, 0, -1, 1, 0), -2);
        CHECK.due("how many not outermost", it.best(0, 0, 0, 0, -1, 1, 4), 0);
    }

    private static void bestTies() {
        CHECK.says("that with the greatest WISH, of several the shortest line");
        best("all alike", object(HOUSE, "far 1", "want 5"), 4, 1, 1, 1, 1, 256);
        best("no clause that holds", object(HOUSE, "far 1", "want 5 if 1=2"), 4, 1, 1, 1, 1, 256);
        best("a longer line that is wished more", object(HOUSE, "far 1", "want long / 36"), 4, 2, 4, 4, 4);
        best("a longer line that comes first", object(HOUSE, "not long = 16", "want 5"), 4, 1, 1, 1, 2, 255);
    }

    /** All with a line of 18 are wished; the land leaves no room on the sides that would come first. */
    private static void bestFirst() {
        CHECK.says("then the first (l least, then u, r, d)");
        String wish = "want 1 if long = 18";
        best("d", object(HOUSE, "far 1", wish), 2, 1, 1, 1, 2);
        best("r", object("wide 20 12;" + HOUSE, "far 1", wish), 2, 1, 1, 2, 1);
        best("u", object("wide 12 12;" + HOUSE, "far 1", wish), 2, 1, 2, 1, 1);
        best("l", object("wide 12 12;house 9 9 11 11;river 8 6 12 8", "far 1", wish), 2, 2, 1, 1, 1);
        best("l least, whatever u is", object(HOUSE, "far 1", "want 1 if long = 20 and width = 5"), 2, 1, 1, 2, 2);
        best("u least, whatever r is", object(HOUSE, "far 1", "want 1 if long = 20 and width = 4"), 3, 1, 1, 1, 3);
    }

    private static void bestExtremes() {
        CHECK.says("all goes round in 64 bits");
        best("the least number there is", object(HOUSE, "far 1", "want " + LEAST_NUMBER), 2, 1, 1, 1, 1, 16);
        best("and the greatest", object(HOUSE, "far 1", "want " + LEAST_NUMBER + ";want 0-1 if long = 20"), 2, 1, 1, 2, 2);
        best("below 0", object(HOUSE, "far 1", "want 0 - long"), 2, 1, 1, 1, 1);
        best("below 0", object(HOUSE, "far 1", "want long - 99999"), 2, 2, 2, 2, 2);
        best("beyond 32 bits", object(HOUSE, "far 1", "want 32768*32768*4 if long = 20;want 5"), 2, 1, 1, 2, 2);
    }

    private static void bestOfTwo() {
        CHECK.says("a rectangle beyond that of a THING (or the least one that has two)");
        RoundAnothers it = Check.object("house 5 9 7 11;house 10 6 12 8", "join 1", "far 1");
        Check.wish(it, "want ground");
        for (int turn = 0; turn < 2; turn++) {
            for (int what = 0; what < 5; what++) {
                int want = what == 4 ? 81 : 3;
                CHECK.due("two, " + what, it.best(0, 0, 0, turn, 1 - turn, 3, what), want);
                CHECK.due("two without join, " + what, it.best(1, 0, 0, turn, 1 - turn, 3, what), what == 4 ? 0 : -2);
            }
            CHECK.due("the shortest of two", it.least(0, 0, turn, 1 - turn, 3), 2 * (9 + 7));
            CHECK.due("the shortest of two without join", it.least(1, 0, turn, 1 - turn, 3), -2);
        }
    }

    private static void bestWithoutNumbers() {
        CHECK.says("NONE without these (0 to 3)");
        RoundAnothers it = Check.full("far 1");
        Check.wish(it, "want 1");
        CHECK.due("best round the last wall", it.best(0, 0, 0, 29, -1, 2, 4), 16);
        CHECK.due("least round the last wall", it.least(0, 0, 29, -1, 1), 84);
        CHECK.due("thing 30", it.best(0, 0, 0, 30, -1, 2, 4), -1);
    }

    private static void ahead(String name, RoundAnothers it, int m, int... want) {
        for (int what = 0; what < want.length; what++) {
            CHECK.due("ahead " + name + ", m " + m + ", " + what, it.ahead(0, 0, 1, 2, 0, m, what), want[what]);
        }
    }

    private static void aheadMargins() {
        CHECK.says("AHEAD of another FAMILY: likewise (m 1 to 2)");
        RoundAnothers it = object(HOUSE, "not deep > 0", "want ground");
        ahead("the widest", it, 1, 1, 1, 1, 1, -1);
        ahead("the widest", it, 2, 2, 2, 2, 2, -1);
        ahead("m 0", it, 0, -1, -1, -1, -1);
        ahead("m 3", it, 3, -1, -1, -1, -1);
        it = object(HOUSE, "far 2", "want 1");
        ahead("too near", it, 1, -2, -2, -2, -2, -1);
        ahead("just far", it, 2, 2, 2, 2, 2, -1);
        ahead("beyond all", object(HOUSE, "far 3", "want 1"), 2, -2, -2, -2, -2);
        it = object(HOUSE, "not deep > 0", "want 1 if long = 18");
        ahead("the first", it, 2, 1, 1, 1, 2);
        ahead("the shortest", object(HOUSE, "not deep > 0", "want 7"), 2, 1, 1, 1, 1);
    }

    /**
     * Lines of 16, 18, 20 are met by one that is 8 longer at least and up to 16 longer; the next
     * one's best has m as well.
     */
    private static void aheadOthers() {
        CHECK.says("but by WISH less the other's: that of its BEST ROUND that WALL alone");
        // Round a line of 16 or 18 he can come by m 2; round one of 20 only one of 28 or more, which is not let.
        RoundAnothers it = object(HOUSE, "not long > 27", "want 100");
        ahead("where he can't come", it, 2, 1, 1, 2, 2);
        ahead("where he can come anyhow", it, 1, 1, 1, 1, 1);
        // By m 1 a line of 16 is met by 24 alone, by m 2 by one of up to 32.
        it = object(HOUSE, "far 1", "want 1 if deep = 1 and long = 32");
        ahead("his m is this one's, too", it, 2, 1, 1, 1, 1);
        it = object(HOUSE, "far 1", "want 1 if deep = 1 and long = 24");
        ahead("what he wishes is less here", it, 2, 1, 1, 1, 2);
        it = object(HOUSE, "far 1", "want 1 if deep = 1 and long <= 28");
        ahead("and here", it, 2, 1, 2, 2, 2);
        // His like and his walls are his.
        it = object(HOUSE, "far 1", "want like + 3 if deep = 1 and long = 24");
        it.like(2, 1, -3);
        ahead("he wants nothing", it, 2, 1, 1, 1, 1);
        it.like(2, 1, -2);
        ahead("he wants something", it, 2, 1, 1, 1, 2);
        it.like(1, 2, 9);
        ahead("what one likes oneself is nothing to it", it, 2, 1, 1, 1, 2);
    }

    private static void aheadNone() {
        CHECK.says("(0 if there is none, or if it is below 0)");
        ahead("none comes, and none is wished", object(HOUSE, "not deep > 0 and long < 28", "want 0 - long if deep > 0"), 2, 1, 1, 1, 1);
        ahead("none comes here", object(HOUSE, "not deep > 0 and long < 28", "want 1 if deep > 0"), 2, 1, 1, 1, 1);
        // Round a line of 20 or more he can't come: that counts as 0, not more and not less.
        ahead("he wants 1 where he comes", object(HOUSE, "not long > 27", "want 1 if deep > 0"), 2, 1, 1, 2, 2);
        ahead("he wants nothing where he comes", object(HOUSE, "not long > 27", "want 0"), 2, 1, 1, 1, 1);
        RoundAnothers it = object(HOUSE, "not deep > 0 and long > 24", "want 3 if deep > 0");
        ahead("none comes but round the shortest", it, 2, 1, 1, 1, 2);
    }

    private static void aheadBelow() {
        CHECK.says("(0 if there is none, or if it is below 0)");
        ahead("below 0", object(HOUSE, "far 1", "want 0 - long if deep > 0"), 2, 1, 1, 1, 1);
        ahead("just below 0", object(HOUSE, "far 1", "want 23 - long if deep > 0"), 2, 1, 1, 1, 1);
        ahead("just 0", object(HOUSE, "far 1", "want 24 - long if deep > 0"), 2, 1, 1, 1, 1);
        ahead("just above 0", object(HOUSE, "far 1", "want 25 - long if deep > 0"), 2, 1, 1, 1, 2);
        ahead("the least number there is", object(HOUSE, "far 1", "want " + LEAST_NUMBER + " if deep > 0"), 2, 1, 1, 1, 1);
    }

    private static void aheadLeavesAll() {
        CHECK.says("AHEAD what 0 to 3: l, u, r, d; -2: none; NONE without these (FAMILIES unlike).");
        RoundAnothers it = Check.full("far 1");
        Check.wish(it, "want ground");
        long before = Check.print(it);
        CHECK.due("round the last wall", it.ahead(0, 0, 0, 11, 29, 2, 0), 2);
        CHECK.due("not outermost", it.ahead(0, 0, 0, 11, 28, 2, 0), -2);
        CHECK.due("families alike", it.ahead(0, 0, 11, 11, 29, 2, 0), -1);
        CHECK.due("all stays", Check.print(it), before);
    }

    private static void least() {
        CHECK.says("LEAST: the shortest line of all MARGINS up to m (1 to 5) by which a WALL CAN come.");
        for (int far = 1; far <= 5; far++) {
            RoundAnothers it = Check.object(HOUSE, "far " + far);
            for (int m = 0; m <= 6; m++) {
                int want = m < 1 || m > 5 ? -1 : m < far ? -2 : 2 * (4 + 4 * far);
                CHECK.due("far " + far + ", m " + m, it.least(0, 0, 0, -1, m), want);
            }
        }
        RoundAnothers it = Check.object(HOUSE, "far 6", "not long < 46", "not long < 50", "may width = 12");
        CHECK.due("beyond all", it.least(0, 0, 0, -1, 5), -2);
        CHECK.due("not below 46", it.least(1, 0, 0, -1, 5), 46);
        CHECK.due("48 at most", it.least(2, 0, 0, -1, 5), -2);
        CHECK.due("just so wide", it.least(3, 0, 0, -1, 5), 2 * (12 + 4));
        CHECK.due("alike", it.least(0, 0, 0, 0, 5), -2);
        CHECK.due("at the land's edge", Check.object("house 9 0 11 2", "far 1").least(0, 0, 0, -1, 5), -2);
    }

    private static void mostMargins() {
        CHECK.says("each with the least MARGIN (1 to 9), alike on all sides, by which it CAN");
        for (int far = 1; far <= 10; far++) {
            RoundAnothers it = Check.object("wide 40 40;house 19 19 21 21", "far " + far);
            CHECK.due("far " + far, it.most(0, 0, 0), far > 9 ? 0 : 19 / far);
        }
        // A width of 20 takes a margin of 9, one of 22 would take 10.
        CHECK.due("margin 9", Check.object("wide 40 40;house 19 19 21 21", "not width < 20;not deep > 0").most(0, 0, 0), 1);
        CHECK.due("margin 10", Check.object("wide 40 40;house 19 19 21 21", "not width < 22;not deep > 0").most(0, 0, 0), 0);
        // The least one leaves most room; a larger one would have been let, too.
        CHECK.due("the least", Check.object(HOUSE, "far 1;not width = 6").most(0, 0, 0), 8);
        CHECK.due("alike on all sides", Check.object("house 9 5 11 7", "far 1").most(0, 0, 0), 5);
        CHECK.due("none", Check.object(HOUSE, "not 1=1").most(0, 0, 0), 0);
    }

    private static void mostWalls() {
        CHECK.says("MOST: how many WALLS can come, one ROUND the other");
        RoundAnothers it = Check.object(HOUSE, "not own > 3", "not deep > 4", "may like = 0", "not year > 0");
        CHECK.due("those that have come count as own", it.most(0, 0, 0), 4);
        CHECK.due("and lie in the next", it.most(1, 0, 0), 5);
        it.like(0, 1, 5);
        CHECK.due("nobody likes himself", it.most(2, 0, 0), 9);
        CHECK.due("all in one year", it.most(3, 0, 0), 9);
        it.build(1, 1, 8, 8, 12, 12, 0, -1);
        CHECK.due("round another's", it.most(2, 0, 6), 0);
        CHECK.due("round one's own", it.most(2, 1, 6), 8);
        CHECK.due("one has come", it.most(0, 1, 6), 3);
        CHECK.due("none of this one's has come", it.most(0, 0, 6), 4);
        CHECK.due("one is in it", it.most(1, 0, 6), 4);
        CHECK.due("not outermost", it.most(1, 0, 0), 0);
        CHECK.due("as many as the land takes", Check.object("wide 40 40;house 19 19 20 20", "far 1").most(0, 0, 0), 19);
    }

    private static void mostWithoutNumbers() {
        CHECK.says("MOST (24 at most, whatever numbers are free); NONE without these.");
        RoundAnothers it = Check.full("far 1");
        // From 10 15 29 34 on, till the walls above (to 7) and the land's edge (40) are too near.
        CHECK.due("without a number", it.most(0, 0, 29), 6);
        it.pull(6);
        CHECK.due("with one number", it.most(0, 0, 29), 6);
    }

    private static void mostLeavesAll() {
        CHECK.says("MOST (24 at most, whatever numbers are free); NONE without these.");
        RoundAnothers it = Check.full("far 1");
        long before = Check.print(it);
        it.most(0, 0, 29);
        it.most(0, 0, 28);
        it.best(0, 0, 0, 29, -1, 4, 0);
        it.least(0, 0, 29, -1, 5);
        CHECK.due("all stays", Check.print(it), before);
        for (int walls = 0; walls < 4; walls++) {
            it = Check.object(HOUSE, "not own >= " + walls, "far 1");
            Check.wish(it, "want 5 + own");
            before = Check.print(it);
            CHECK.due("most", it.most(0, 0, 0), walls);
            CHECK.due("all stays", Check.print(it), before);
            CHECK.due("nothing of it counts", it.wish(0, 0, 8, 8, 12, 12, 0, -1), 5);
            CHECK.due("nothing of it is in the way", it.build(1, 0, 8, 8, 12, 12, 0, -1), 6);
        }
    }

    private static void nests() {
        CHECK.says("NESTS: OUTERMOST THINGS. FREE: CELLS of the LAND in no THING.");
        RoundAnothers it = Check.object("house 0 0 20 20");
        CHECK.due("one nest", it.nests(0), 1);
        CHECK.due("no cell is free", it.nests(1), 0);
        it = Check.object("wide 40 40;house 0 0 40 39");
        CHECK.due("a row is free", it.nests(1), 40);
        it = Check.full("far 1");
        CHECK.due("six nests", it.nests(0), 6);
        CHECK.due("free", it.nests(1), 1600 - 5 * 49 - 19 * 19);
        CHECK.says("2: the THING that lies IN most others, of several the least, 3: how many these are (NONE each: no HOUSES)");
        CHECK.due("house 5", it.nests(2), 5);
        CHECK.due("lies in nine", it.nests(3), 9);
        for (int wall = 29; wall > 23; wall--) {
            CHECK.due("lies in", it.nests(3), wall - 20);
            CHECK.due("house 5", it.nests(2), 5);
            it.pull(wall);
        }
        CHECK.due("three each", it.nests(3), 3);
        CHECK.due("house 0 is the least", it.nests(2), 0);
        it.pull(8);
        CHECK.due("house 1 now", it.nests(2), 1);
    }

    private static void nestsWithoutHouses() {
        CHECK.says("(NONE each: no HOUSES)");
        RoundAnothers it = new RoundAnothers();
        int[] want = {0, 400, -1, -1, 12};
        for (int what = 0; what < 5; what++) {
            CHECK.due("nests " + what, it.nests(what), want[what]);
        }
        it = Check.object(HOUSE);
        int[] one = {1, 396, 0, 0, 12};
        for (int what = 0; what < 5; what++) {
            CHECK.due("nests " + what, it.nests(what), one[what]);
        }
    }

    private static void familiesWithout() {
        CHECK.says("4: FAMILIES without a WALL. NONE for others.");
        RoundAnothers it = Check.object("wide 40 40;house 19 19 20 20", "far 1");
        for (int i = 0; i < 13; i++) {
            CHECK.due("families after " + i + " walls", it.nests(4), 12 - Math.min(i, 12));
            it.build(0, i % 12, 18 - i, 18 - i, 21 + i, 21 + i, i == 0 ? 0 : 5 + i, -1);
        }
        it.pull(6);
        CHECK.due("family 0 has another", it.nests(4), 0);
        it.pull(18);
        CHECK.due("family 0 has none", it.nests(4), 1);
        CHECK.due("nests -1", it.nests(-1), -1);
        CHECK.due("nests 5", it.nests(5), -1);
    }

    private static void between() {
        CHECK.says("of the least rectangle that has both, beyond by 1 on each side, if it lies in the LAND");
        CHECK.due("all of the land", Check.object("wide 12 10;house 1 1 2 3;house 9 7 11 9").between(0, 1), 120 - 2 - 4);
        CHECK.due("left", Check.object("wide 12 10;house 0 1 2 3;house 9 7 11 9").between(0, 1), -2);
        CHECK.due("up", Check.object("wide 12 10;house 1 0 2 3;house 9 7 11 9").between(0, 1), -2);
        CHECK.due("right", Check.object("wide 12 10;house 1 1 2 3;house 9 7 12 9").between(0, 1), -2);
        CHECK.due("down", Check.object("wide 12 10;house 1 1 2 3;house 9 7 11 10").between(0, 1), -2);
        CHECK.due("the other way", Check.object("wide 12 10;house 9 1 11 3;house 1 7 2 9").between(1, 0), 120 - 4 - 2);
        CHECK.due("left, the second", Check.object("wide 12 10;house 9 1 11 3;house 0 7 2 9").between(0, 1), -2);
    }

    private static void betweenOthers() {
        CHECK.says("BETWEEN two OUTERMOST THINGS: CELLS in neither of them");
        RoundAnothers it = Check.object("house 3 3 4 4;house 9 3 10 4;house 6 3 7 4", "far 1");
        CHECK.due("with a third one in it", it.between(0, 1), 9 * 3 - 2);
        it.build(0, 0, 2, 2, 5, 5, 0, -1);
        CHECK.due("not outermost", it.between(0, 1), -1);
        CHECK.due("nor the other way", it.between(1, 0), -1);
        CHECK.due("a wall and its house", it.between(6, 0), -1);
        CHECK.due("a wall and a house", it.between(6, 1), 10 * 5 - 9 - 1);
        CHECK.due("alike", it.between(1, 1), -1);
        CHECK.due("a wall alike", it.between(6, 6), -1);
        it.pull(6);
        CHECK.due("outermost again", it.between(0, 1), 25);
    }
}
