/** Promises 11, 12 and 22 to 26: gate, key, way, errand, sum, where, gains. */
public final class WayTest {
    private static final Check CHECK = new Check();
    private static final String LAND = "wide 10 10;house 4 4 6 6";

    public static void main(String[] args) {
        gate();
        key();
        way();
        nested();
        rivers();
        wayAbsent();
        errand();
        where();
        whereIsCheapest();
        gains();
        CHECK.end();
    }

    /** A wall of family 1 round the house. */
    private static RoundAnothers walled() {
        RoundAnothers it = Check.object(LAND, "far 1");
        it.build(0, 1, 3, 3, 7, 7, 0, -1);
        return it;
    }

    private static void gate() {
        RoundAnothers it = Check.object("house 5 5 7 8", "far 1");
        CHECK.due("no wall", it.gate(6, 0, 0, 0), false);
        it.build(0, 1, 4, 4, 8, 10, 0, -1);
        int[] lengths = {4, 6, 4, 6};
        for (int side = 0; side < 4; side++) {
            CHECK.due("place -1", it.gate(6, side, -1, 0), false);
            CHECK.due("beyond its length", it.gate(6, side, lengths[side], 0), false);
            CHECK.due("at its end", it.gate(6, side, lengths[side] - 1, 999), true);
            CHECK.due("side", it.thing(6, 9), side);
            CHECK.due("place", it.thing(6, 10), lengths[side] - 1);
            CHECK.due("toll", it.thing(6, 11), 999);
            CHECK.due("at its beginning", it.gate(6, side, 0, 0), true);
            CHECK.due("place", it.thing(6, 10), 0);
            CHECK.due("toll", it.thing(6, 11), 0);
        }
        CHECK.due("side 4", it.gate(6, 4, 0, 0), false);
        CHECK.due("side -1", it.gate(6, -1, 0, 0), false);
        CHECK.due("toll 1000", it.gate(6, 0, 0, 1000), false);
        CHECK.due("toll -1", it.gate(6, 0, 0, -1), false);
        CHECK.due("a house", it.gate(0, 0, 0, 0), false);
        CHECK.due("30", it.gate(30, 0, 0, 0), false);
        CHECK.due("nothing happened", it.thing(6, 9), 3);
    }

    private static void key() {
        RoundAnothers it = walled();
        it.gate(6, 0, 0, 5);
        CHECK.due("it is so", it.key(6, 3, false), false);
        CHECK.due("key", it.key(6, 3, true), true);
        CHECK.due("it is so", it.key(6, 3, true), false);
        CHECK.due("for nothing", it.way(3, 0, 0, 4, 4, 0), 0);
        CHECK.due("nobody is asked", it.way(3, 0, 0, 4, 4, 2), 0);
        CHECK.due("another one pays", it.way(4, 0, 0, 4, 4, 0), 5);
        CHECK.due("no key", it.key(6, 3, false), true);
        CHECK.due("pays again", it.way(3, 0, 0, 4, 4, 0), 5);
        CHECK.due("family 12", it.key(6, 12, true), false);
        CHECK.due("family -1", it.key(6, -1, true), false);
        CHECK.due("family 11", it.key(6, 11, true), true);
        CHECK.due("a house", it.key(0, 1, true), false);
        CHECK.due("no wall", it.key(7, 1, true), false);
        CHECK.due("-1", it.key(-1, 1, true), false);
    }

    private static void way(String name, RoundAnothers it, int family, int coins, int steps, int asks) {
        CHECK.due(name + ", coins", it.way(family, 0, 0, 4, 4, 0), coins);
        CHECK.due(name + ", steps", it.way(family, 0, 0, 4, 4, 1), steps);
        CHECK.due(name + ", asks", it.way(family, 0, 0, 4, 4, 2), asks);
        CHECK.due(name + ", back", it.way(family, 4, 4, 0, 0, 1), steps);
    }

    private static void way() {
        RoundAnothers it = Check.object(LAND, "far 1");
        way("without walls", it, 0, 0, 8, 0);
        it = walled();
        way("without a gate", it, 0, -2, -2, -2);
        way("without a gate, the owner", it, 1, -2, -2, -2);
        CHECK.due("inside", it.way(0, 3, 3, 6, 6, 1), 6);
        CHECK.due("round about", it.way(0, 2, 5, 7, 5, 1), 9);
        it.gate(6, 0, 0, 5);
        way("by the upper side", it, 0, 5, 8, 2);
        way("the owner", it, 1, 0, 8, 0);
        it.gate(6, 2, 3, 7);
        way("by the lower side", it, 0, 7, 18, 2);
        it.gate(6, 1, 0, 0);
        way("by the right side, free", it, 0, 0, 14, 0);
        it.gate(6, 3, 2, 999);
        way("by the left side", it, 0, 999, 9 + 1, 2);
        CHECK.due("nowhere", it.way(0, 5, 5, 5, 5, 1), 0);
        CHECK.due("nowhere", it.way(0, 5, 5, 5, 5, 0), 0);
        CHECK.due("not through", it.way(0, 2, 5, 7, 5, 1), 9);
        CHECK.due("not through", it.way(0, 2, 5, 7, 5, 0), 0);
    }

    private static void nested() {
        RoundAnothers it = Check.object("house 4 4 6 6;house 14 4 16 6", "far 1");
        it.build(0, 1, 3, 3, 7, 7, 0, -1);
        it.build(0, 2, 2, 2, 8, 8, 6, -1);
        it.build(0, 3, 13, 3, 17, 7, 1, -1);
        it.gate(6, 0, 1, 10);
        it.gate(7, 1, 2, 200);
        it.gate(8, 3, 1, 30);
        CHECK.due("coins", it.way(0, 4, 4, 14, 4, 0), 240);
        CHECK.due("asks", it.way(0, 4, 4, 14, 4, 2), 2 + 4 + 8);
        CHECK.due("steps", it.way(0, 4, 4, 14, 4, 1), 2 + 5 + 7 - 2 + 2);
        CHECK.due("family 2 pays others", it.way(2, 4, 4, 14, 4, 0), 40);
        CHECK.due("family 2 asks others", it.way(2, 4, 4, 14, 4, 2), 2 + 8);
        it.pull(7);
        CHECK.due("less to pay", it.way(0, 4, 4, 14, 4, 0), 40);
    }

    private static void rivers() {
        RoundAnothers it = Check.object("wide 10 10;river 0 4 9 5;house 1 1 2 2", "far 1");
        CHECK.due("round the river", it.way(0, 0, 0, 0, 9, 1), 27);
        CHECK.due("from a river", it.way(0, 0, 4, 0, 0, 1), -2);
        CHECK.due("to a river", it.way(0, 0, 0, 0, 4, 0), -2);
        CHECK.due("in a river", it.way(0, 0, 4, 0, 4, 2), -2);
        it = Check.object("wide 10 10;river 0 4 10 5;house 1 1 2 2", "far 1");
        CHECK.due("no way", it.way(0, 0, 0, 0, 9, 1), -2);
        it = Check.object("wide 10 10;river 2 0 3 10;house 4 4 6 6", "far 1");
        it.build(0, 0, 3, 3, 7, 7, 0, -1);
        it.gate(6, 3, 1, 0);
        CHECK.due("a gate to a river", it.way(0, 4, 4, 9, 9, 1), -2);
        it = Check.object("wide 10 10;house 1 1 2 2", "far 1");
        it.build(0, 0, 0, 0, 3, 3, 0, -1);
        it.gate(6, 0, 1, 0);
        CHECK.due("a gate out of the land", it.way(0, 1, 1, 9, 9, 1), -2);
    }

    private static void wayAbsent() {
        RoundAnothers it = walled();
        CHECK.due("no family", it.way(12, 0, 0, 1, 1, 0), -1);
        CHECK.due("no family", it.way(-1, 0, 0, 1, 1, 0), -1);
        CHECK.due("no cell", it.way(0, 10, 0, 1, 1, 0), -1);
        CHECK.due("no cell", it.way(0, 0, -1, 1, 1, 0), -1);
        CHECK.due("no cell", it.way(0, 0, 0, 1, 10, 0), -1);
        CHECK.due("what 3", it.way(0, 0, 0, 1, 1, 3), -1);
        CHECK.due("what -1", it.way(0, 0, 0, 1, 1, -1), -1);
    }

    private static void errand() {
        RoundAnothers it = walled();
        CHECK.due("none told", it.sum(0), 0);
        CHECK.due("errand -1", it.errand(-1, 0, 0, 0, 1, 1), false);
        CHECK.due("errand 6", it.errand(6, 0, 0, 0, 1, 1), false);
        CHECK.due("family 12", it.errand(0, 12, 0, 0, 1, 1), false);
        CHECK.due("x 40", it.errand(0, 0, 40, 0, 1, 1), false);
        CHECK.due("y -1", it.errand(0, 0, 0, -1, 1, 1), false);
        CHECK.due("to x -1", it.errand(0, 0, 0, 0, -1, 1), false);
        CHECK.due("to y 40", it.errand(0, 0, 0, 0, 1, 40), false);
        CHECK.due("nothing happened", it.sum(1), 0);
        CHECK.due("errand 0", it.errand(0, 0, 0, 0, 4, 4), true);
        CHECK.due("no way, coins", it.sum(0), 999);
        CHECK.due("no way, steps", it.sum(1), 9999);
        it.gate(6, 0, 0, 5);
        CHECK.due("coins", it.sum(0), 5);
        CHECK.due("steps", it.sum(1), 8);
        CHECK.due("errand 5", it.errand(5, 1, 0, 0, 4, 4), true);
        CHECK.due("coins with the owner's", it.sum(0), 5);
        CHECK.due("steps with the owner's", it.sum(1), 16);
        CHECK.due("errand 5 anew, beyond the land", it.errand(5, 1, 39, 39, 4, 4), true);
        CHECK.due("coins", it.sum(0), 5 + 999);
        CHECK.due("steps", it.sum(1), 8 + 9999);
        CHECK.due("to beyond the land", it.errand(5, 1, 4, 4, 4, 10), true);
        CHECK.due("steps", it.sum(1), 8 + 9999);
        CHECK.due("sum 2", it.sum(2), -1);
        CHECK.due("sum -1", it.sum(-1), -1);
    }

    private static void where(String name, RoundAnothers it, int side, int place) {
        CHECK.due(name + ", side", it.where(6, 0), side);
        CHECK.due(name + ", place", it.where(6, 1), place);
    }

    private static void where() {
        RoundAnothers it = walled();
        where("without errands", it, 0, 0);
        it.errand(0, 0, 0, 0, 4, 4);
        where("from the corner", it, 0, 0);
        it.errand(0, 0, 9, 5, 5, 5);
        where("from the right", it, 1, 2);
        it.errand(0, 0, 5, 9, 5, 5);
        where("from below", it, 2, 2);
        it.errand(0, 0, 0, 5, 5, 5);
        where("from the left", it, 3, 2);
        it.errand(0, 0, 5, 5, 9, 5);
        where("to the right", it, 1, 2);
        it.errand(1, 0, 9, 9, 0, 9);
        it.errand(2, 0, 3, 6, 6, 3);
        it.errand(3, 0, 30, 30, 5, 5);
        where("others do not matter", it, 1, 2);
        it.gate(6, 3, 1, 50);
        where("wherever the gate is", it, 1, 2);
        CHECK.due("the gate stays", it.thing(6, 9), 3);
        CHECK.due("what 2", it.where(6, 2), -1);
        CHECK.due("what -1", it.where(6, -1), -1);
        CHECK.due("a house", it.where(0, 0), -1);
        CHECK.due("no wall", it.where(7, 0), -1);
        CHECK.due("-1", it.where(-1, 0), -1);
        it = Check.object("wide 10 10;house 4 4 6 6;river 4 3 5 7", "far 1");
        it.build(0, 1, 3, 3, 7, 7, 0, -1);
        it.gate(6, 1, 1, 0);
        it.errand(0, 0, 0, 5, 6, 4);
        where("not into the part that a river cuts off", it, 0, 2);
        it = Check.object("wide 10 10;house 4 4 6 6;river 3 7 7 8", "far 1");
        it.build(0, 1, 3, 3, 7, 7, 0, -1);
        it.errand(0, 0, 3, 9, 3, 6);
        where("not to the river", it, 3, 3);
    }

    /** With tolls above 999 in all, no way is cheaper than a way. */
    private static void whereIsCheapest() {
        RoundAnothers it = Check.object("house 4 4 6 6;river 3 1 7 2", "far 1");
        it.build(0, 1, 3, 3, 7, 7, 0, -1);
        it.build(0, 2, 2, 2, 8, 8, 6, -1);
        it.gate(6, 1, 1, 999);
        it.gate(7, 1, 3, 1);
        it.errand(0, 0, 15, 5, 5, 5);
        CHECK.due("coins", it.sum(0), 1000);
        CHECK.due("the outer one's side", it.where(7, 0), 0);
        CHECK.due("the outer one's place", it.where(7, 1), 1);
        it.gate(6, 1, 1, 998);
        CHECK.due("as cheap as no way, but shorter", it.where(7, 0), 1);
        CHECK.due("as cheap as no way, but shorter", it.where(7, 1), 2);
    }

    private static void gains() {
        RoundAnothers it = walled();
        it.errand(0, 0, 0, 0, 4, 4);
        CHECK.due("a way at last", it.gains(6), 9991);
        it.gate(6, 2, 3, 0);
        CHECK.due("a shorter way", it.gains(6), 10);
        it.gate(6, 0, 0, 0);
        CHECK.due("nothing", it.gains(6), 0);
        it.errand(1, 0, 2, 5, 7, 5);
        CHECK.due("straight through", it.gains(6), 4);
        CHECK.due("the wall stays", it.thing(6, 0), 3);
        CHECK.due("no wall", it.gains(7), -100000);
        CHECK.due("a house", it.gains(0), -100000);
        CHECK.due("-1", it.gains(-1), -100000);
        CHECK.due("30", it.gains(30), -100000);
        it = walled();
        it.build(0, 2, 2, 2, 8, 8, 6, -1);
        it.errand(0, 0, 0, 0, 4, 4);
        CHECK.due("the other one is in the way", it.gains(6), 0);
        it.gate(6, 0, 0, 0);
        CHECK.due("the outer one", it.gains(7), 9991);
    }
}
