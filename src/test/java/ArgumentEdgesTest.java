import java.util.function.BiFunction;

/**
 * Each argument of each call, at the edge of what there is and just beyond it: beyond it the call
 * answers what it refuses by, and nothing happens.
 */
public final class ArgumentEdgesTest {
    private static final Check CHECK = new Check();
    private static final int MIN = Integer.MIN_VALUE;
    private static final int MAX = Integer.MAX_VALUE;

    /** A call with its arguments in a row. */
    private interface Call extends BiFunction<RoundAnothers, int[], Long> {
    }

    private final String name;
    private final Call call;
    private final long refusal;
    private final int[] base;

    private ArgumentEdgesTest(String name, long refusal, Call call, int... base) {
        this.name = name;
        this.call = call;
        this.refusal = refusal;
        this.base = base;
    }

    public static void main(String[] args) {
        texts();
        families();
        walls();
        looks();
        searches();
        ways();
        yearsAndImages();
        CHECK.end();
    }

    /**
     * Houses 0 to 2; wall 6 of family 3 round 0, with a gate and a key, wall 7 of family 4 round 6;
     * 7, 1 and 2 are outermost; two laws, three wishes; images 0 to 3.
     */
    private static RoundAnothers land() {
        RoundAnothers it = Check.object("wide 30 25;house 8 8 10 10;house 16 8 18 10;house 22 18 23 19;worth 5 0 0 4 4;"
                + "well 3 3;river 0 20 12 21", "far 1;join 1", "far 2");
        Check.wish(it, "want ground");
        Check.wish(it, "want long");
        Check.wish(it, "want 7");
        it.like(3, 4, 2);
        it.build(0, 3, 7, 7, 11, 11, 0, -1);
        it.build(0, 4, 6, 6, 12, 12, 6, -1);
        it.gate(6, 0, 1, 50);
        it.key(6, 5, true);
        it.errand(0, 3, 0, 0, 8, 8);
        it.seed(77);
        for (int k = 0; k < 4; k++) {
            it.image(k);
        }
        it.gate(7, 1, 2, 3);
        it.feed(1, 2, 3, 4, 5);
        return it;
    }

    private String told(int[] arguments) {
        StringBuilder s = new StringBuilder(name);
        for (int a : arguments) {
            s.append(' ').append(a);
        }
        return s.toString();
    }

    /** At these the call is not refused; -1 and so on stand for what an argument may be, not for answers. */
    private ArgumentEdgesTest at(int argument, int... values) {
        for (int value : values) {
            int[] arguments = base.clone();
            arguments[argument] = value;
            CHECK.due(told(arguments) + " is refused", call.apply(land(), arguments) == refusal, false);
        }
        return this;
    }

    private ArgumentEdgesTest beyond(int argument, int... values) {
        for (int value : values) {
            refused(argument, value);
        }
        refused(argument, MIN);
        return this;
    }

    /** Likewise, and what is beyond all that there is. */
    private ArgumentEdgesTest outside(int argument, int... values) {
        refused(argument, MAX);
        return beyond(argument, values);
    }

    private void refused(int argument, int value) {
        int[] arguments = base.clone();
        arguments[argument] = value;
        RoundAnothers it = land();
        long before = Check.print(it);
        CHECK.due(told(arguments), call.apply(it, arguments), refusal);
        CHECK.due(told(arguments) + " changed something", Check.print(it) != before, false);
    }

    private ArgumentEdgesTest law(int argument) {
        return at(argument, 0, 1).outside(argument, -1, 2, 5, 6);
    }

    private ArgumentEdgesTest wish(int argument) {
        return at(argument, 0, 1, 2).outside(argument, -1, 3, 5, 6);
    }

    private ArgumentEdgesTest family(int argument) {
        return at(argument, 0, 3, 10, 11).outside(argument, -1, 12);
    }

    private ArgumentEdgesTest thing(int argument) {
        return at(argument, 0, 2, 6, 7).outside(argument, -1, 3, 5, 8, 29, 30, 31);
    }

    private ArgumentEdgesTest other(int argument) {
        return at(argument, -1, 0, 2, 6, 7).outside(argument, -2, 3, 5, 8, 29, 30, 31);
    }

    private ArgumentEdgesTest wall(int argument) {
        return at(argument, 6, 7).outside(argument, -1, 0, 2, 5, 8, 29, 30, 31);
    }

    private ArgumentEdgesTest range(int argument, int low, int high) {
        return at(argument, low, high).outside(argument, low - 1, high + 1);
    }

    private static ArgumentEdgesTest of(String name, long refusal, Call call, int... base) {
        return new ArgumentEdgesTest(name, refusal, call, base);
    }

    private static long bit(boolean is) {
        return is ? 1 : 0;
    }

    private static void texts() {
        CHECK.says("The TAPE has its first n bytes alone: n; NONE, and nothing happens, if it has not so many, or n is below 0.");
        of("end", -1, (it, a) -> (long) it.end(a[0]), 20).range(0, 0, 20);
        CHECK.says("NONE, and nothing happens: there are 6, or no such sort.");
        of("text", -1, (it, a) -> (long) it.text(a[0]), 0).range(0, 0, 1);
        CHECK.says("6: LAWS, 7: WISHES, 8: bytes of the TAPE. NONE for others.");
        of("count", -1, (it, a) -> (long) it.count(a[0]), 0).range(0, 0, 8);
    }

    private static void families() {
        CHECK.says("LIKE of one to another becomes n: what it was; -100, and nothing happens, without these (unlike).");
        Call like = (it, a) -> (long) it.like(a[0], a[1], a[2]);
        of("like", -100, like, 5, 6, 1).family(0).family(1).range(2, -9, 9).beyond(0, 6).beyond(1, 5);
        of("like", -100, like, 0, 11, 1).beyond(0, 11).beyond(1, 0);
        CHECK.says("false, and nothing happens: it is so, or there are none such.");
        Call key = (it, a) -> bit(it.key(a[0], a[1], a[2] == 1));
        of("key", 0, key, 6, 4, 1).wall(0).at(1, 0, 11).outside(1, -1, 12, 5);
        of("key", 0, key, 6, 5, 0).at(0, 6).beyond(1, 0, 3, 4, 11);
    }

    private static void walls() {
        CHECK.says("1 if a WALL CAN come, 0 if not; NONE without these (THINGS that there are; other NONE: ROUND one alone).");
        Call can = (it, a) -> (long) it.can(a[0], a[1], a[2], a[3], a[4], a[5], a[6], a[7]);
        ArgumentEdgesTest it = of("can", -1, can, 0, 0, 5, 5, 19, 13, 7, 1);
        it.law(0).family(1).thing(6).other(7);
        for (int i = 2; i < 6; i++) {
            it.at(i, MIN, -1, 0, 41, MAX);
        }
        CHECK.says("-2, and nothing happens: it can't, or there is no number; NONE without these.");
        Call build = (x, a) -> (long) x.build(a[0], a[1], a[2], a[3], a[4], a[5], a[6], a[7]);
        it = of("build", -1, build, 0, 0, 5, 5, 19, 13, 7, 1);
        it.law(0).family(1).thing(6).other(7);
        for (int i = 2; i < 6; i++) {
            it.at(i, MIN, -1, 0, 41, MAX);
            of("build", -2, build, 0, 0, 5, 5, 19, 13, 7, 1).outside(i, -1, 31);
        }
        of("build", -2, build, 0, 0, 5, 5, 19, 13, 7, 1).at(7, 1, 3).refused(7, 0);
        CHECK.says("(0 also without these, or if the rectangle doesn't lie in the LAND, has not the THINGS in it, or they are "
                + "alike, or not OUTERMOST)");
        Call wish = (x, a) -> x.wish(a[0], a[1], a[2], a[3], a[4], a[5], a[6], a[7]);
        of("wish", 0, wish, 0, 0, 5, 5, 19, 13, 7, 1).wish(0).family(1)
                .at(2, 0, 6).outside(2, -1, 7).at(3, 0, 6).outside(3, -1, 7)
                .at(4, 18, 30).outside(4, 17, 31).at(5, 12, 25).outside(5, 11, 26)
                .at(6, 7).outside(6, 0, 1, 2, 6, -1, 3, 8, 30).at(7, -1, 1).outside(7, 0, 2, 6, 7, -2, 3, 8, 30);
        CHECK.says("PULLED: true; false, and nothing happens, without that WALL.");
        of("pull", 0, (x, a) -> bit(x.pull(a[0])), 6).wall(0);
        CHECK.says("A GATE, in place of one there was: true; false, and nothing happens, without these.");
        of("gate", 0, (x, a) -> bit(x.gate(a[0], a[1], a[2], a[3])), 6, 0, 0, 0)
                .wall(0).range(1, 0, 3).range(2, 0, 3).range(3, 0, 999);
    }

    private static void looks() {
        CHECK.says("11: its toll (NONE each without a GATE). -2 without these.");
        of("thing", -2, (it, a) -> (long) it.thing(a[0], a[1]), 0, 0).thing(0).range(1, 0, 11);
        CHECK.says("3: the innermost THING that has it (NONE). -2 without these.");
        of("cell", -2, (it, a) -> (long) it.cell(a[0], a[1], a[2]), 1, 1, 0).range(0, 0, 29).range(1, 0, 24).range(2, 0, 3);
        CHECK.says("1 if a THING lies IN another one, else 0; NONE without these.");
        of("inside", -1, (it, a) -> (long) it.inside(a[0], a[1]), 0, 1).thing(0).thing(1);
        CHECK.says("4: FAMILIES without a WALL. NONE for others.");
        of("nests", -1, (it, a) -> (long) it.nests(a[0]), 0).range(0, 0, 4);
        CHECK.says("BETWEEN; -2: it doesn't lie in the LAND; NONE without these (unlike).");
        of("between", -1, (it, a) -> (long) it.between(a[0], a[1]), 1, 2)
                .at(0, 1, 7).outside(0, 2, 0, 6, -1, 3, 8, 30).at(1, 2, 7).outside(1, 1, 0, 6, -1, 3, 8, 30);
    }

    private static void searches() {
        CHECK.says("-2: none; NONE without these (0 to 3).");
        Call best = (it, a) -> (long) it.best(a[0], a[1], a[2], a[3], a[4], a[5], a[6]);
        of("best", -1, best, 0, 0, 0, 7, -1, 1, 0)
                .law(0).wish(1).family(2).thing(3).other(4).range(5, 1, 4).range(6, 0, 4);
        of("best", -1, best, 0, 0, 0, 7, -1, 1, 4).law(0).wish(1).family(2).thing(3).other(4).range(5, 1, 4);
        CHECK.says("AHEAD what 0 to 3: l, u, r, d; -2: none; NONE without these (FAMILIES unlike).");
        of("ahead", -1, (it, a) -> (long) it.ahead(a[0], a[1], a[2], a[3], a[4], a[5], a[6]), 0, 0, 1, 2, 7, 1, 0)
                .law(0).wish(1).family(2).family(3).beyond(2, 2).beyond(3, 1).thing(4).range(5, 1, 2).range(6, 0, 3);
        CHECK.says("LEAST; -2: none; NONE without these.");
        of("least", -1, (it, a) -> (long) it.least(a[0], a[1], a[2], a[3], a[4]), 0, 0, 7, -1, 1)
                .law(0).family(1).thing(2).other(3).range(4, 1, 5);
        CHECK.says("MOST (24 at most, whatever numbers are free); NONE without these.");
        of("most", -1, (it, a) -> (long) it.most(a[0], a[1], a[2]), 0, 0, 7).law(0).family(1).thing(2);
    }

    private static void ways() {
        CHECK.says("A WAY what 0: COINS, 1: STEPS, 2: ASKS; -2: there is none; NONE without these.");
        of("way", -1, (it, a) -> (long) it.way(a[0], a[1], a[2], a[3], a[4], a[5]), 0, 1, 1, 2, 2, 0)
                .family(0).range(1, 0, 29).range(2, 0, 24).range(3, 0, 29).range(4, 0, 24).range(5, 0, 2);
        CHECK.says("An ERRAND (0 to 5) in place of what it was (CELLS 0 to 39): true; false, and nothing happens, for others.");
        of("errand", 0, (it, a) -> bit(it.errand(a[0], a[1], a[2], a[3], a[4], a[5])), 0, 0, 1, 1, 2, 2)
                .range(0, 0, 5).family(1).range(2, 0, 39).range(3, 0, 39).range(4, 0, 39).range(5, 0, 39);
        CHECK.says("What 0: SUM of COINS, 1: of STEPS; NONE for others.");
        of("sum", -1, (it, a) -> (long) it.sum(a[0]), 0).range(0, 0, 1);
        CHECK.says("WHERE what 0: side, 1: place; NONE without these.");
        of("where", -1, (it, a) -> (long) it.where(a[0], a[1]), 6, 0).wall(0).range(1, 0, 1);
        CHECK.says("GAINS; -100000 without that WALL.");
        of("gains", -100000, (it, a) -> (long) it.gains(a[0]), 6).wall(0);
    }

    private static void yearsAndImages() {
        CHECK.says("x becomes a number: what it was; NONE, and nothing happens, below 0.");
        of("seed", -1, (it, a) -> (long) it.seed(a[0]), 5).at(0, 0, MAX).beyond(0, -1);
        CHECK.says("So many YEARS (1 to 60) by a LAW: how many WALLS come; NONE, and nothing happens, without these");
        of("years", -1, (it, a) -> (long) it.years(a[0], a[1]), 0, 1).law(0).range(1, 1, 60);
        CHECK.says("AFTER n YEARS by a LAW what 0: WALLS, 1: NESTS, 2: the most that one is DEEP, 3: FREE; NONE without these.");
        of("after", -1, (it, a) -> (long) it.after(a[0], a[1], a[2]), 0, 1, 0).law(0).range(1, 0, 60).range(2, 0, 3);
        CHECK.says("An IMAGE is made: how many WALLS; NONE without it.");
        of("image", -1, (it, a) -> (long) it.image(a[0]), 0).range(0, 0, 3);
        CHECK.says("NONE, and nothing happens, if it was never made, or without it.");
        of("back", -1, (it, a) -> (long) it.back(a[0]), 0).range(0, 0, 3);
    }
}
