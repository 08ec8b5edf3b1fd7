/** The document's part IV, and promises 11, 12 and 22 to 26: each sentence that names an edge, on both sides of it. */
public final class WayEdgesTest {
    private static final Check CHECK = new Check();
    private static final String[] SIDES = {"up", "right", "down", "left"};

    public static void main(String[] args) {
        gates();
        everyGate();
        gateInPlace();
        keys();
        besideOneAnother();
        riverEnds();
        landsEdge();
        linesAndHouses();
        tolls();
        eachWall();
        ownersAndKeys();
        asks();
        noWay();
        errands();
        sumsWithoutWay();
        whereAtFirst();
        whereSides();
        whereTies();
        whereToll();
        whereWithoutGate();
        whereCoinsFirst();
        whereLeavesAll();
        gains();
        gainsOfEach();
        CHECK.end();
    }

    /** The smallest land: a house of one cell, and the wall 6 of family 4 round it, from 1 to 4. */
    private static RoundAnothers smallest() {
        RoundAnothers it = Check.object("wide 5 5;house 2 2 3 3", "far 1");
        it.build(0, 4, 1, 1, 4, 4, 0, -1);
        return it;
    }

    private static void gates() {
        CHECK.says("A GATE of a WALL: a side (0 up, 1 right, 2 down, 3 left), a place (0 to one less than the side is long: "
                + "from the left, from above), a toll (0 to 999).");
        RoundAnothers it = Check.object("house 5 5 8 7", "far 1");
        it.build(0, 0, 3, 2, 10, 13, 0, -1);
        int[] lengths = {7, 11, 7, 11};
        int last = -1;
        for (int side = 0; side < 4; side++) {
            for (int place = -1; place <= lengths[side]; place++) {
                boolean is = place >= 0 && place < lengths[side];
                CHECK.due("gate " + SIDES[side] + " " + place, it.gate(6, side, place, 9), is);
                last = is ? place : last;
                CHECK.due("its place", it.thing(6, 10), last);
            }
        }
        for (int toll : new int[] {0, 1, 998, 999}) {
            CHECK.due("toll " + toll, it.gate(6, 0, 0, toll), true);
            CHECK.due("its toll", it.thing(6, 11), toll);
        }
        CHECK.due("toll -1", it.gate(6, 0, 0, -1), false);
        CHECK.due("toll 1000", it.gate(6, 0, 0, 1000), false);
        CHECK.due("side -1", it.gate(6, -1, 0, 0), false);
        CHECK.due("side 4", it.gate(6, 4, 0, 0), false);
        CHECK.due("its toll", it.thing(6, 11), 999);
    }

    /** The way goes over each gate just where it is: in the smallest land, from each corner. */
    private static void everyGate() {
        CHECK.says("a WALL's line is gone over at its GATE alone");
        int[][] corners = {{0, 0}, {4, 0}, {4, 4}, {0, 4}};
        for (int side = 0; side < 4; side++) {
            for (int place = 0; place < 3; place++) {
                RoundAnothers it = smallest();
                it.gate(6, side, place, 0);
                int x = side == 1 ? 3 : side == 3 ? 1 : 1 + place;
                int y = side == 0 ? 1 : side == 2 ? 3 : 1 + place;
                int outX = side == 1 ? 4 : side == 3 ? 0 : x;
                int outY = side == 0 ? 0 : side == 2 ? 4 : y;
                for (int[] c : corners) {
                    int want = outside(c[0], c[1], outX, outY) + 1 + Math.abs(x - 2) + Math.abs(y - 2);
                    CHECK.due("in by " + SIDES[side] + " " + place, it.way(0, c[0], c[1], 2, 2, 1), want);
                    CHECK.due("out by " + SIDES[side] + " " + place, it.way(0, 2, 2, c[0], c[1], 1), want);
                }
            }
        }
    }

    /** Steps along the ring of 16 cells about the wall. */
    private static int outside(int x, int y, int toX, int toY) {
        int apart = Math.abs(ring(x, y) - ring(toX, toY));
        return Math.min(apart, 16 - apart);
    }

    private static int ring(int x, int y) {
        return y == 0 ? x : x == 4 ? 4 + y : y == 4 ? 12 - x : 16 - y;
    }

    private static void gateInPlace() {
        CHECK.says("A GATE, in place of one there was: true; false, and nothing happens, without these.");
        RoundAnothers it = smallest();
        CHECK.due("a gate", it.gate(6, 0, 1, 0), true);
        CHECK.due("by it", it.way(0, 2, 0, 2, 2, 1), 2);
        CHECK.due("another", it.gate(6, 2, 1, 0), true);
        CHECK.due("the one there was is shut", it.way(0, 2, 0, 2, 2, 1), 10);
        CHECK.due("the same again", it.gate(6, 2, 1, 0), true);
        CHECK.due("refused", it.gate(6, 0, 3, 0), false);
        CHECK.due("as it was", it.way(0, 2, 0, 2, 2, 1), 10);
    }

    private static void keys() {
        CHECK.says("A KEY of a WALL for a FAMILY, or none: true; false, and nothing happens: it is so, or there are none such.");
        RoundAnothers it = smallest();
        for (int family = -1; family <= 12; family++) {
            boolean is = family >= 0 && family < 12;
            CHECK.due("no key to take from " + family, it.key(6, family, false), false);
            CHECK.due("a key for " + family, it.key(6, family, true), is);
            CHECK.due("again for " + family, it.key(6, family, true), false);
        }
        for (int family = 0; family < 12; family++) {
            CHECK.due("none for " + family, it.key(6, family, false), true);
            CHECK.due("none again for " + family, it.key(6, family, false), false);
        }
        CHECK.due("bits go round at 32", it.key(6, 32, true), false);
        CHECK.due("bits go round at 32", it.key(6, 0, true), true);
    }

    private static void besideOneAnother() {
        CHECK.says("over CELLS beside one another that are no RIVERS (both ends, too)");
        RoundAnothers it = Check.object("wide 5 6");
        CHECK.due("from corner to corner", it.way(0, 0, 0, 4, 5, 1), 9);
        CHECK.due("to where one is", it.way(0, 4, 5, 4, 5, 1), 0);
        CHECK.due("coins to where one is", it.way(0, 4, 5, 4, 5, 0), 0);
        CHECK.due("asks to where one is", it.way(0, 4, 5, 4, 5, 2), 0);
        // Not over a corner: the two rivers touch there.
        it = Check.object("wide 5 5;river 0 2 2 3;river 2 1 3 2;river 2 0 3 1");
        CHECK.due("not over a corner", it.way(0, 1, 1, 2, 2, 1), -2);
        it = Check.object("wide 5 5;river 0 2 4 3");
        CHECK.due("by the last column", it.way(0, 0, 1, 0, 3, 1), 10);
        it = Check.object("wide 5 5;river 0 2 5 3");
        CHECK.due("shut off", it.way(0, 0, 1, 0, 3, 1), -2);
        it = Check.object("wide 5 5;river 2 0 3 4");
        CHECK.due("by the last row", it.way(0, 1, 0, 3, 0, 1), 10);
    }

    private static void riverEnds() {
        CHECK.says("over CELLS beside one another that are no RIVERS (both ends, too)");
        RoundAnothers it = Check.object("wide 5 5;river 2 2 3 3");
        for (int what = 0; what < 3; what++) {
            CHECK.due("from a river", it.way(0, 2, 2, 2, 3, what), -2);
            CHECK.due("to a river", it.way(0, 2, 3, 2, 2, what), -2);
            CHECK.due("on a river", it.way(0, 2, 2, 2, 2, what), -2);
        }
        CHECK.due("about it", it.way(0, 2, 1, 2, 3, 1), 4);
    }

    private static void landsEdge() {
        CHECK.says("a WALL's line is gone over at its GATE alone");
        RoundAnothers it = Check.object("wide 6 5;house 1 1 5 4", "far 1");
        it.build(0, 0, 0, 0, 6, 5, 0, -1);
        for (int side = 0; side < 4; side++) {
            it.gate(6, side, 0, 0);
            CHECK.due("inside, with a gate out of the land " + SIDES[side], it.way(0, 0, 0, 5, 4, 1), 9);
        }
        it = Check.object("wide 6 5;house 1 1 2 2", "far 1");
        it.build(0, 0, 0, 0, 3, 3, 0, -1);
        for (int side : new int[] {0, 3}) {
            it.gate(6, side, 1, 0);
            CHECK.due("a gate out of the land " + SIDES[side], it.way(0, 1, 1, 5, 4, 1), -2);
        }
        it.gate(6, 1, 1, 0);
        CHECK.due("a gate into the land", it.way(0, 1, 1, 5, 4, 1), 7);
    }

    private static void linesAndHouses() {
        CHECK.says("(HOUSES hinder nobody)");
        RoundAnothers it = Check.object("wide 5 5;house 0 2 5 3");
        CHECK.due("through a house", it.way(0, 0, 0, 0, 4, 1), 4);
        CHECK.due("into a house", it.way(0, 0, 0, 4, 2, 1), 6);
        it = smallest();
        CHECK.due("no gate", it.way(4, 0, 0, 2, 2, 1), -2);
        CHECK.due("within the wall", it.way(0, 1, 1, 3, 3, 1), 4);
        CHECK.due("outside the wall", it.way(0, 0, 2, 4, 2, 1), 8);
        it.gate(6, 3, 1, 0);
        CHECK.due("not through it: it has one gate", it.way(0, 0, 2, 4, 2, 1), 8);
    }

    private static void tolls() {
        CHECK.says("for the toll each time, nothing for its OWNER and who has a KEY: the least COINS, of such the fewest STEPS");
        RoundAnothers it = smallest();
        for (int toll : new int[] {0, 1, 999}) {
            it.gate(6, 0, 1, toll);
            CHECK.due("coins in", it.way(0, 2, 0, 2, 2, 0), toll);
            CHECK.due("coins out", it.way(0, 2, 2, 2, 0, 0), toll);
            CHECK.due("steps", it.way(0, 2, 0, 2, 2, 1), 2);
            CHECK.due("asks", it.way(0, 2, 0, 2, 2, 2), toll > 0 ? 1 << 4 : 0);
            CHECK.due("coins outside", it.way(0, 0, 0, 4, 4, 0), 0);
            CHECK.due("coins inside", it.way(0, 1, 1, 3, 3, 0), 0);
        }
    }

    /** 9 walls round house 5 of the full land, gates above one another: 999 each. */
    private static void eachWall() {
        CHECK.says("for the toll each time, nothing for its OWNER and who has a KEY");
        RoundAnothers it = Check.full("far 1");
        for (int i = 0; i < 9; i++) {
            it.gate(21 + i, 2, 1 + i, 999);
            CHECK.due("coins of " + i + " walls", it.way(0, 19, 24, 19, 26 + i, 0), 999 * (i + 1));
            CHECK.due("steps of " + i + " walls", it.way(0, 19, 24, 19, 26 + i, 1), 2 + i);
        }
        for (int h = 0; h < 5; h++) {
            for (int i = 0; i < 3; i++) {
                it.gate(6 + 3 * h + i, 2, 1 + i, 999);
            }
        }
        CHECK.due("coins of twelve walls", it.way(5, 3, 3, 19, 24, 0), 12 * 999);
        CHECK.due("asks of twelve walls", it.way(5, 3, 3, 19, 24, 2), 1 + (1 << 11));
        CHECK.due("coins of the owner of three", it.way(0, 3, 3, 19, 24, 0), 9 * 999);
        CHECK.due("coins of the owner of nine", it.way(11, 3, 3, 19, 24, 0), 3 * 999);
        CHECK.due("coins from nest to nest", it.way(5, 3, 3, 35, 3, 0), 6 * 999);
    }

    private static void ownersAndKeys() {
        CHECK.says("nothing for its OWNER and who has a KEY");
        for (int family = 0; family < 12; family++) {
            RoundAnothers it = smallest();
            it.gate(6, 0, 1, 7);
            CHECK.due("coins of family " + family, it.way(family, 2, 0, 2, 2, 0), family == 4 ? 0 : 7);
            CHECK.due("asks of family " + family, it.way(family, 2, 0, 2, 2, 2), family == 4 ? 0 : 16);
            it.key(6, family, true);
            CHECK.due("coins with a key " + family, it.way(family, 2, 0, 2, 2, 0), 0);
            CHECK.due("asks with a key " + family, it.way(family, 2, 0, 2, 2, 2), 0);
            int other = family == 11 ? 0 : family + 1;
            CHECK.due("another's coins " + other, it.way(other, 2, 0, 2, 2, 0), other == 4 ? 0 : 7);
            it.key(6, family, false);
            CHECK.due("coins without it " + family, it.way(family, 2, 0, 2, 2, 0), family == 4 ? 0 : 7);
        }
        RoundAnothers it = smallest();
        it.key(6, 1, true);
        CHECK.due("a key without a gate", it.way(1, 2, 0, 2, 2, 0), -2);
        CHECK.due("an owner without a gate", it.way(4, 2, 0, 2, 2, 0), -2);
    }

    private static void asks() {
        CHECK.says("ASKS: OWNERS of WALLS that are gone over on a WAY for a toll above 0, as bits");
        RoundAnothers it = Check.object("house 4 4 6 6;house 14 4 16 6", "far 1");
        it.build(0, 0, 3, 3, 7, 7, 0, -1);
        it.build(0, 11, 2, 2, 8, 8, 6, -1);
        it.build(0, 11, 13, 3, 17, 7, 1, -1);
        it.gate(6, 0, 0, 1);
        it.gate(7, 0, 0, 1);
        it.gate(8, 0, 0, 0);
        CHECK.due("0 and 11", it.way(5, 4, 4, 14, 4, 2), 1 + 2048);
        it.gate(7, 0, 0, 0);
        CHECK.due("0 alone", it.way(5, 4, 4, 14, 4, 2), 1);
        it.gate(8, 0, 0, 1);
        CHECK.due("0 and 11 by its other wall", it.way(5, 4, 4, 14, 4, 2), 1 + 2048);
        it.gate(7, 0, 0, 1);
        CHECK.due("11 twice is once", it.way(0, 4, 4, 14, 4, 2), 2048);
        CHECK.due("11 asks not itself", it.way(11, 4, 4, 14, 4, 2), 1);
        CHECK.due("coins", it.way(5, 4, 4, 14, 4, 0), 3);
    }

    private static void noWay() {
        CHECK.says("A WAY what 0: COINS, 1: STEPS, 2: ASKS; -2: there is none; NONE without these.");
        RoundAnothers it = smallest();
        for (int what = -1; what < 4; what++) {
            CHECK.due("no way, what " + what, it.way(0, 0, 0, 2, 2, what), what < 0 || what > 2 ? -1 : -2);
        }
        CHECK.due("the last cell", it.way(0, 0, 0, 4, 4, 1), 8);
        CHECK.due("beside it", it.way(0, 0, 0, 5, 4, 1), -1);
        CHECK.due("below it", it.way(0, 0, 0, 4, 5, 1), -1);
        CHECK.due("from beside it", it.way(0, 5, 4, 0, 0, 1), -1);
        CHECK.due("from below it", it.way(0, 4, 5, 0, 0, 1), -1);
    }

    private static void errands() {
        CHECK.says("ERRANDS 0 to 5: a FAMILY, two CELLS. SUM of COINS, SUM of STEPS of all ERRANDS told");
        RoundAnothers it = smallest();
        CHECK.due("none told, coins", it.sum(0), 0);
        CHECK.due("none told, steps", it.sum(1), 0);
        it.gate(6, 0, 1, 100);
        for (int k = 0; k < 6; k++) {
            CHECK.due("errand " + k, it.errand(k, 0, 2, 0, 2, 2), true);
            CHECK.due("coins", it.sum(0), 100 * (k + 1));
            CHECK.due("steps", it.sum(1), 2 * (k + 1));
        }
        CHECK.due("errand 6", it.errand(6, 0, 2, 0, 2, 2), false);
        CHECK.due("errand -1", it.errand(-1, 0, 2, 0, 2, 2), false);
        CHECK.due("coins", it.sum(0), 600);
        CHECK.says("An ERRAND (0 to 5) in place of what it was (CELLS 0 to 39): true; false, and nothing happens, for others.");
        CHECK.due("the owner's instead", it.errand(5, 4, 2, 0, 2, 2), true);
        CHECK.due("coins", it.sum(0), 500);
        CHECK.due("steps", it.sum(1), 12);
        CHECK.due("nowhere instead", it.errand(5, 4, 2, 2, 2, 2), true);
        CHECK.due("steps", it.sum(1), 10);
        CHECK.due("refused", it.errand(5, 4, 2, 2, 2, 40), false);
        CHECK.due("as it was", it.sum(1), 10);
    }

    private static void sumsWithoutWay() {
        CHECK.says("(999 COINS and 9999 STEPS for one without a WAY, or with a CELL that is not there)");
        RoundAnothers it = smallest();
        int[][] ends = {{0, 0, 2, 2}, {2, 2, 0, 0}, {5, 0, 0, 0}, {0, 0, 0, 5}, {39, 39, 39, 39}, {0, 5, 0, 5}};
        for (int k = 0; k < 6; k++) {
            it.errand(k, 4, ends[k][0], ends[k][1], ends[k][2], ends[k][3]);
            CHECK.due("coins", it.sum(0), 999 * (k + 1));
            CHECK.due("steps", it.sum(1), 9999 * (k + 1));
        }
        it = Check.object("wide 5 5;river 2 2 3 3");
        it.errand(0, 0, 2, 2, 2, 2);
        CHECK.due("on a river, coins", it.sum(0), 999);
        CHECK.due("on a river, steps", it.sum(1), 9999);
        it.errand(0, 0, 4, 4, 0, 0);
        CHECK.due("the last cell", it.sum(1), 8);
        CHECK.due("a cell that is there later", it.errand(1, 0, 0, 0, 5, 0), true);
        CHECK.due("not yet", it.sum(1), 8 + 9999);
    }

    private static void where(String name, RoundAnothers it, int wall, int side, int place) {
        CHECK.due(name + ", side", it.where(wall, 0), side);
        CHECK.due(name + ", place", it.where(wall, 1), place);
    }

    private static void whereAtFirst() {
        CHECK.says("of several the first side, then place");
        RoundAnothers it = smallest();
        where("no errands", it, 6, 0, 0);
        it.gate(6, 2, 2, 9);
        where("no errands, wherever the gate is", it, 6, 0, 0);
        it.errand(0, 0, 0, 0, 4, 4);
        where("an errand outside", it, 6, 0, 0);
        it.errand(0, 0, 1, 1, 3, 3);
        where("an errand inside", it, 6, 0, 0);
        it.errand(0, 0, 9, 9, 2, 2);
        where("an errand from a cell that is not there", it, 6, 0, 0);
        it = Check.object("wide 5 5;house 2 2 3 3;river 2 2 3 3", "far 1");
        it.build(0, 4, 1, 1, 4, 4, 0, -1);
        it.errand(0, 0, 0, 0, 2, 2);
        where("an errand to a river", it, 6, 0, 0);
    }

    /** For each gate of a wall of 5 by 4 an errand that goes just over it. */
    private static void whereSides() {
        CHECK.says("WHERE for a WALL: the side and place of its GATE");
        int[] lengths = {5, 4, 5, 4};
        for (int side = 0; side < 4; side++) {
            for (int place = 0; place < lengths[side]; place++) {
                // Rivers leave one ring of cells about the wall.
                RoundAnothers it = Check.object("wide 9 8;house 3 3 6 5;river 0 0 9 1;river 0 7 9 8;river 0 0 1 8;river 8 0 9 8", "far 1");
                it.build(0, 4, 2, 2, 7, 6, 0, -1);
                int x = side == 1 ? 6 : side == 3 ? 2 : 2 + place;
                int y = side == 0 ? 2 : side == 2 ? 5 : 2 + place;
                int outX = side == 1 ? 7 : side == 3 ? 1 : x;
                int outY = side == 0 ? 1 : side == 2 ? 6 : y;
                it.errand(3, 0, x, y, outX, outY);
                where("out by " + SIDES[side] + " " + place, it, 6, side, place);
                it.errand(3, 0, outX, outY, x, y);
                where("in by " + SIDES[side] + " " + place, it, 6, side, place);
                it.gate(6, (side + 2) % 4, 0, 500);
                where("wherever the gate is", it, 6, side, place);
            }
        }
    }

    private static void whereTies() {
        CHECK.says("by which the SUM of COINS is least, then that of STEPS, of several the first side, then place");
        RoundAnothers it = smallest();
        it.errand(0, 0, 2, 0, 2, 2);
        it.errand(1, 0, 2, 4, 2, 2);
        it.errand(2, 0, 0, 2, 2, 2);
        it.errand(3, 0, 4, 2, 2, 2);
        where("alike from all sides", it, 6, 0, 1);
        it.errand(0, 0, 2, 4, 2, 2);
        where("two from below", it, 6, 2, 1);
        it.errand(1, 0, 4, 2, 2, 2);
        where("two from the right", it, 6, 1, 1);
        it = smallest();
        it.errand(0, 0, 0, 0, 1, 1);
        where("over the corner", it, 6, 0, 0);
        it.errand(0, 0, 4, 4, 3, 3);
        where("over the other corner", it, 6, 1, 2);
        it.errand(0, 0, 0, 4, 1, 3);
        where("over the third corner", it, 6, 2, 0);
        it.errand(0, 0, 4, 0, 3, 1);
        where("over the fourth corner", it, 6, 0, 2);
    }

    /**
     * Walls 6 and 7 round a house; of family 1 and 2. A river above 7, so that a gate there is no way.
     * The errand comes from the right and goes over both.
     */
    private static RoundAnothers twoWalls(int inner) {
        RoundAnothers it = Check.object("house 4 4 6 6;river 3 1 7 2", "far 1");
        it.build(0, 1, 3, 3, 7, 7, 0, -1);
        it.build(0, 2, 2, 2, 8, 8, 6, -1);
        it.gate(6, 1, 1, inner);
        it.errand(0, 0, 15, 4, 4, 4);
        return it;
    }

    private static void whereToll() {
        CHECK.says("(its toll as it is, 0 without a GATE)");
        RoundAnothers it = twoWalls(500);
        it.gate(7, 1, 2, 498);
        where("998 coins and a way", it, 7, 1, 2);
        it.gate(7, 1, 2, 499);
        where("999 coins and a way", it, 7, 1, 2);
        it.gate(7, 1, 2, 500);
        where("1000 coins, so no way is cheaper", it, 7, 0, 1);
        it.key(7, 0, true);
        where("nothing to pay with a key", it, 7, 1, 2);
        it.key(7, 0, false);
        it.errand(0, 2, 15, 4, 4, 4);
        where("nothing to pay for the owner", it, 7, 1, 2);
    }

    private static void whereWithoutGate() {
        CHECK.says("(its toll as it is, 0 without a GATE)");
        where("999 coins, of which none here", twoWalls(999), 7, 1, 2);
        RoundAnothers it = twoWalls(999);
        it.gate(7, 1, 2, 1);
        where("one more", it, 7, 0, 1);
        it.pull(7);
        it.build(0, 2, 2, 2, 8, 8, 6, -1);
        where("a wall in its place has none", it, 7, 1, 2);
        // 1000 coins on the way already: nothing here makes it less.
        it = Check.object("house 4 4 6 6;river 2 0 8 1", "far 1");
        it.build(0, 1, 3, 3, 7, 7, 0, -1);
        it.build(0, 2, 2, 2, 8, 8, 6, -1);
        it.build(0, 3, 1, 1, 9, 9, 7, -1);
        it.gate(6, 1, 1, 999);
        it.gate(7, 1, 2, 1);
        it.errand(0, 0, 15, 4, 4, 4);
        where("1000 coins, so no way is cheaper", it, 8, 0, 1);
        it.gate(7, 1, 2, 0);
        where("999 coins and a way", it, 8, 1, 3);
    }

    private static void whereCoinsFirst() {
        CHECK.says("by which the SUM of COINS is least, then that of STEPS");
        RoundAnothers it = twoWalls(600);
        it.gate(7, 1, 2, 600);
        it.errand(1, 1, 15, 4, 4, 4);
        // By a way: 1200 and 600; without: 999 and 999.
        where("one pays for both", it, 7, 1, 2);
        it.errand(2, 0, 15, 4, 4, 4);
        // By a way: 1200, 1200 and 600; without: 999 each.
        where("two pay for both", it, 7, 0, 1);
        CHECK.due("coins as it is", it.sum(0), 3000);
    }

    private static void whereLeavesAll() {
        CHECK.says("WHERE what 0: side, 1: place; NONE without these.");
        RoundAnothers it = twoWalls(5);
        long before = Check.print(it);
        it.where(7, 0);
        it.where(6, 1);
        it.gains(6);
        it.gains(7);
        CHECK.due("all stays", Check.print(it), before);
        CHECK.due("what -1", it.where(7, -1), -1);
        CHECK.due("what 2", it.where(7, 2), -1);
        CHECK.due("wall 8", it.where(8, 0), -1);
        CHECK.due("a house", it.where(0, 0), -1);
    }

    private static void gains() {
        CHECK.says("GAINS: the SUM of STEPS less what it would be if a WALL were PULLED.");
        RoundAnothers it = smallest();
        CHECK.due("no errands", it.gains(6), 0);
        for (int k = 0; k < 6; k++) {
            it.errand(k, 0, 2, 0, 2, 2);
            CHECK.due("ways at last", it.gains(6), (9999 - 2) * (k + 1));
        }
        it.gate(6, 0, 1, 999);
        CHECK.due("a gate where it should be", it.gains(6), 0);
        it.gate(6, 0, 0, 0);
        CHECK.due("a gate beside that", it.gains(6), 6 * 2);
        it.errand(0, 0, 9, 9, 2, 2);
        CHECK.due("an errand from a cell that is not there", it.gains(6), 5 * 2);
        CHECK.due("wall 7", it.gains(7), -100000);
        CHECK.due("a house", it.gains(0), -100000);
    }

    private static void gainsOfEach() {
        CHECK.says("GAINS: the SUM of STEPS less what it would be if a WALL were PULLED.");
        RoundAnothers it = twoWalls(0);
        CHECK.due("6 alone is no gain", it.gains(6), 0);
        CHECK.due("7 is", it.gains(7), 9999 - 11);
        it.gate(7, 3, 2, 0);
        // About the wall and back within it: 7 is gone over from 1 4 to 2 4, 6 from 7 4 to 6 4.
        int about = it.sum(1);
        CHECK.due("with both gates", about, it.way(0, 15, 4, 1, 4, 1) + 1 + it.way(0, 2, 4, 7, 4, 1) + 1 + 2);
        CHECK.due("7", it.gains(7), about - 11);
        CHECK.due("6", it.gains(6), about - (it.way(0, 15, 4, 1, 4, 1) + 1 + 2));
        it.pull(7);
        CHECK.due("as it was said", it.sum(1), 11);
    }
}
