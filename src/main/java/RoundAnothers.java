import java.util.Arrays;

/**
 * A land in which nobody may build a wall but round a house or a wall that is there.
 * What each call promises stands in DOC.md; words in capitals there are plain names here.
 */
public final class RoundAnothers {
    public static final int NONE = -1;

    private static final int REFUSED = -2;
    private static final int NO_LIKE = -100;
    private static final int NO_GAIN = -100000;
    private static final int MOST_HOUSES = 6;
    private static final int FIRST_WALL = 6;
    private static final int WALLS_END = 30;
    private static final int MOST_WALLS = 24;
    /** A slot behind all numbers, for a wall that is only supposed. */
    private static final int TRIAL = 30;
    private static final int SLOTS = 31;
    private static final int FAMILIES = 12;
    private static final int ERRANDS = 6;
    private static final int IMAGES = 4;
    private static final int TEXTS = 6;
    private static final int WIDEST = 40;
    private static final int CELLS = WIDEST * WIDEST;
    private static final int LAST_YEAR = 9999;
    private static final int MOST_YEARS = 60;
    private static final int NO_WAY_COINS = 999;
    private static final int NO_WAY_STEPS = 9999;

    /** The words that texts know; each has its number from its place here. */
    private static final String WORDS =
            "long width height ground worth wells river deep like own year two far may not join want if and or wide well house ";
    private static final int WORD_LONG = 0;
    private static final int WORD_WIDTH = 1;
    private static final int WORD_HEIGHT = 2;
    private static final int WORD_GROUND = 3;
    private static final int WORD_WORTH = 4;
    private static final int WORD_WELLS = 5;
    private static final int WORD_RIVER = 6;
    private static final int WORD_DEEP = 7;
    private static final int WORD_LIKE = 8;
    private static final int WORD_OWN = 9;
    private static final int WORD_YEAR = 10;
    private static final int WORD_TWO = 11;
    private static final int WORD_FAR = 12;
    private static final int WORD_MAY = 13;
    private static final int WORD_NOT = 14;
    private static final int WORD_JOIN = 15;
    private static final int WORD_WANT = 16;
    private static final int WORD_IF = 17;
    private static final int WORD_AND = 18;
    private static final int WORD_OR = 19;
    private static final int WORD_WIDE = 20;
    private static final int WORD_WELL = 21;
    private static final int WORD_HOUSE = 22;
    /** So many words, the first ones, are values. */
    private static final int VALUE_WORDS = 12;

    private final Tape tape = new Tape();
    private final LandReader landReader = new LandReader();
    private final ScriptReader scriptReader = new ScriptReader();
    private final Script[] laws = new Script[TEXTS];
    private final Script[] wishes = new Script[TEXTS];
    private final State[] images = new State[IMAGES];
    private final Sums sums = new Sums();
    private final Ways ways = new Ways();
    private final Plan plan = new Plan();
    private final Plan rivalPlan = new Plan();
    private final Choice choice = new Choice();
    private final Choice rivalChoice = new Choice();
    private State now = new State();
    private State spare = new State();
    private int lawCount;
    private int wishCount;

    public RoundAnothers() {
    }

    // ---- texts

    public int feed(int a, int b, int c, int d, int e) {
        if (!tape.hasRoom()) {
            return NONE;
        }
        tape.append(a);
        tape.append(b);
        tape.append(c);
        tape.append(d);
        tape.append(e);
        return tape.length;
    }

    public int end(int n) {
        if (n < 0 || n > tape.length) {
            return NONE;
        }
        tape.length = n;
        return n;
    }

    public int land() {
        boolean sound = landReader.read(tape, spare);
        tape.length = 0;
        if (!sound) {
            return REFUSED - tape.fault;
        }
        spare.keepFeelings(now);
        State old = now;
        now = spare;
        spare = old;
        sums.rebuild(now);
        return now.houses;
    }

    public int text(int sort) {
        if (sort == 0 && lawCount < TEXTS) {
            Script law = scriptReader.read(tape, false);
            tape.length = 0;
            if (law == null) {
                return REFUSED - tape.fault;
            }
            laws[lawCount] = law;
            return lawCount++;
        }
        if (sort == 1 && wishCount < TEXTS) {
            Script wish = scriptReader.read(tape, true);
            tape.length = 0;
            if (wish == null) {
                return REFUSED - tape.fault;
            }
            wishes[wishCount] = wish;
            return wishCount++;
        }
        return NONE;
    }

    private Script lawAt(int law) {
        return law >= 0 && law < lawCount ? laws[law] : null;
    }

    private Script wishAt(int wish) {
        return wish >= 0 && wish < wishCount ? wishes[wish] : null;
    }

    // ---- families, walls, gates

    public int like(int of, int to, int n) {
        if (!isFamily(of) || !isFamily(to) || of == to || n < -9 || n > 9) {
            return NO_LIKE;
        }
        int at = of * FAMILIES + to;
        int was = now.likes[at];
        now.likes[at] = n;
        return was;
    }

    public int can(int law, int family, int x, int y, int toX, int toY, int thing, int other) {
        Script script = lawAt(law);
        if (script == null || !areThere(family, thing, other)) {
            return NONE;
        }
        plan.set(family, x, y, toX, toY, thing, other);
        return mayCome(script, plan) ? 1 : 0;
    }

    public int build(int law, int family, int x, int y, int toX, int toY, int thing, int other) {
        Script script = lawAt(law);
        if (script == null || !areThere(family, thing, other)) {
            return NONE;
        }
        plan.set(family, x, y, toX, toY, thing, other);
        int number = now.freeNumber();
        if (number == NONE || !mayCome(script, plan)) {
            return REFUSED;
        }
        now.raise(number, plan);
        return number;
    }

    public long wish(int wish, int family, int x, int y, int toX, int toY, int thing, int other) {
        Script script = wishAt(wish);
        if (script == null || !areThere(family, thing, other)) {
            return 0;
        }
        plan.set(family, x, y, toX, toY, thing, other);
        if (!fits(plan)) {
            return 0;
        }
        describe(plan);
        return script.total(plan.words);
    }

    public boolean pull(int wall) {
        if (!now.isWall(wall)) {
            return false;
        }
        now.remove(wall);
        return true;
    }

    public boolean gate(int wall, int side, int place, int toll) {
        if (!now.isWall(wall) || side < 0 || side > 3 || toll < 0 || toll > 999) {
            return false;
        }
        Thing it = now.things[wall];
        if (place < 0 || place >= it.lengthOf(side)) {
            return false;
        }
        it.side = side;
        it.place = place;
        it.toll = toll;
        return true;
    }

    public boolean key(int wall, int family, boolean is) {
        if (!now.isWall(wall) || !isFamily(family)) {
            return false;
        }
        Thing it = now.things[wall];
        boolean was = (it.keys >> family & 1) == 1;
        if (was == is) {
            return false;
        }
        it.keys ^= 1 << family;
        return true;
    }

    private static boolean isFamily(int family) {
        return family >= 0 && family < FAMILIES;
    }

    private boolean areThere(int family, int thing, int other) {
        return isFamily(family) && now.isThere(thing) && (other == NONE || now.isThere(other));
    }

    // ---- what is there

    public int thing(int thing, int what) {
        if (!now.isThere(thing)) {
            return REFUSED;
        }
        Thing it = now.things[thing];
        boolean gated = it.side != NONE;
        switch (what) {
            case 0: return it.x;
            case 1: return it.y;
            case 2: return it.toX;
            case 3: return it.toY;
            case 4: return it.owner;
            case 5: return it.round;
            case 6: return it.deep;
            case 7: return groundOf(thing);
            case 8: return worthOf(thing);
            case 9: return it.side;
            case 10: return gated ? it.place : NONE;
            case 11: return gated ? it.toll : NONE;
            default: return REFUSED;
        }
    }

    private int groundOf(int thing) {
        int cells = now.things[thing].area();
        for (int i = 0; i < WALLS_END; i++) {
            if (now.things[i].there && now.things[i].round == thing) {
                cells -= now.things[i].area();
            }
        }
        return cells;
    }

    private int worthOf(int thing) {
        int worth = sums.inThing(sums.worth, now.things[thing]);
        for (int i = 0; i < WALLS_END; i++) {
            if (now.things[i].there && now.things[i].round == thing) {
                worth -= sums.inThing(sums.worth, now.things[i]);
            }
        }
        return worth;
    }

    public int cell(int x, int y, int what) {
        if (!now.hasCell(x, y)) {
            return REFUSED;
        }
        int it = now.cells[y * WIDEST + x];
        switch (what) {
            case 0: return it & State.WORTH;
            case 1: return (it & State.RIVER) != 0 ? 1 : 0;
            case 2: return (it & State.WELL) != 0 ? 1 : 0;
            case 3: return now.innermostAt(x, y);
            default: return REFUSED;
        }
    }

    public int inside(int thing, int other) {
        if (!now.isThere(thing) || !now.isThere(other)) {
            return NONE;
        }
        return now.liesIn(thing, other) ? 1 : 0;
    }

    public int nests(int what) {
        switch (what) {
            case 0: return now.nestCount();
            case 1: return now.freeCells();
            case 2: return now.innermostOfAll();
            case 3: return now.houses == 0 ? NONE : now.coversOf(now.innermostOfAll());
            case 4: return now.wallless();
            default: return NONE;
        }
    }

    public int between(int thing, int other) {
        if (thing == other || !now.isThere(thing) || !now.isThere(other)
                || !now.isOutermost(thing) || !now.isOutermost(other)) {
            return NONE;
        }
        Thing one = now.things[thing];
        Thing two = now.things[other];
        plan.surround(one, two);
        plan.spread(1, 1, 1, 1);
        if (!now.holds(plan)) {
            return REFUSED;
        }
        return plan.area() - one.area() - two.area();
    }

    public int count(int what) {
        switch (what) {
            case 0: return now.columns;
            case 1: return now.rows;
            case 2: return now.houses;
            case 3: return now.wallCount();
            case 4: return now.year;
            case 5: return now.seed;
            case 6: return lawCount;
            case 7: return wishCount;
            case 8: return tape.length;
            default: return NONE;
        }
    }

    // ---- whether a wall can come

    /** The rectangle lies in the land and has its things, unlike and outermost, in it. */
    private boolean fits(Plan p) {
        if (!now.holds(p) || !now.isOutermost(p.thing)) {
            return false;
        }
        p.gap = p.gapTo(now.things[p.thing]);
        if (p.other != NONE) {
            if (p.other == p.thing || !now.isOutermost(p.other)) {
                return false;
            }
            p.gap = Math.min(p.gap, p.gapTo(now.things[p.other]));
        }
        return p.gap >= 0;
    }

    private boolean mayCome(Script law, Plan p) {
        if (!fits(p) || p.gap < 1 || p.other != NONE && !law.joins) {
            return false;
        }
        if (!isClearOfOthers(p) || sums.linesInRivers(p)) {
            return false;
        }
        describe(p);
        return p.gap >= law.distance(p.words) && law.allows(p.words);
    }

    private boolean isClearOfOthers(Plan p) {
        for (int i = 0; i < SLOTS; i++) {
            if (i != p.thing && i != p.other && now.isOutermost(i) && !p.isClearOf(now.things[i])) {
                return false;
            }
        }
        return true;
    }

    /** Only for a plan that fits: its things lie in its rectangle. */
    private void describe(Plan p) {
        Thing one = now.things[p.thing];
        Thing two = p.other == NONE ? null : now.things[p.other];
        p.words[WORD_LONG] = p.line();
        p.words[WORD_WIDTH] = p.toX - p.x;
        p.words[WORD_HEIGHT] = p.toY - p.y;
        p.words[WORD_GROUND] = p.area() - one.area() - (two == null ? 0 : two.area());
        p.words[WORD_WORTH] = sums.onGround(sums.worth, p, one, two);
        p.words[WORD_WELLS] = sums.onGround(sums.wells, p, one, two);
        p.words[WORD_RIVER] = sums.onGround(sums.rivers, p, one, two);
        p.words[WORD_DEEP] = now.deepRound(p.thing) + now.deepRound(p.other);
        p.words[WORD_LIKE] = now.likeTo(p.family, one) + now.likeTo(p.family, two);
        p.words[WORD_OWN] = now.wallsOf(p.family) + p.supposed;
        p.words[WORD_YEAR] = now.year;
        p.words[WORD_TWO] = two == null ? 0 : 1;
    }

    // ---- the best wall

    public int best(int law, int wish, int family, int thing, int other, int m, int what) {
        Script script = lawAt(law);
        Script wanted = wishAt(wish);
        if (script == null || wanted == null || !areThere(family, thing, other)
                || m < 1 || m > 4 || what < 0 || what > 4) {
            return NONE;
        }
        aim(plan, family, thing, other);
        search(script, wanted, plan, m, choice);
        return what == 4 ? choice.count : choice.margin(what);
    }

    public int ahead(int law, int wish, int family, int next, int thing, int m, int what) {
        Script script = lawAt(law);
        Script wanted = wishAt(wish);
        if (script == null || wanted == null || !areThere(family, thing, NONE) || !isFamily(next)
                || next == family || m < 1 || m > 2 || what < 0 || what > 3) {
            return NONE;
        }
        aim(plan, family, thing, NONE);
        choice.clear();
        int all = m * m * m * m;
        for (int i = 0; i < all; i++) {
            plan.spreadBy(i, m);
            if (mayCome(script, plan)) {
                long own = wanted.total(plan.words);
                choice.weigh(own - rivalWish(script, wanted, next, m), plan);
            }
        }
        return choice.margin(what);
    }

    /** What the next family would have of the best wall round the planned one. */
    private long rivalWish(Script law, Script wish, int next, int m) {
        now.suppose(plan);
        aim(rivalPlan, next, TRIAL, NONE);
        search(law, wish, rivalPlan, m, rivalChoice);
        now.forget(plan.thing);
        return rivalChoice.count == 0 ? 0 : Math.max(0, rivalChoice.value);
    }

    public int least(int law, int family, int thing, int other, int m) {
        Script script = lawAt(law);
        if (script == null || !areThere(family, thing, other) || m < 1 || m > 5) {
            return NONE;
        }
        aim(plan, family, thing, other);
        search(script, null, plan, m, choice);
        return choice.count == 0 ? REFUSED : choice.line;
    }

    public int most(int law, int family, int thing) {
        Script script = lawAt(law);
        if (script == null || !areThere(family, thing, NONE)) {
            return NONE;
        }
        int walls = 0;
        while (walls < MOST_WALLS && widens(script, family, walls == 0 ? thing : TRIAL, walls)) {
            now.suppose(plan);
            walls++;
        }
        if (walls > 0) {
            now.forget(thing);
        }
        return walls;
    }

    /** Leaves in the plan the least wall, alike on all sides, that can come round a thing. */
    private boolean widens(Script law, int family, int thing, int supposed) {
        aim(plan, family, thing, NONE);
        plan.supposed = supposed;
        for (int margin = 1; margin <= 9; margin++) {
            plan.spread(margin, margin, margin, margin);
            if (mayCome(law, plan)) {
                return true;
            }
        }
        return false;
    }

    private void aim(Plan p, int family, int thing, int other) {
        p.set(family, 0, 0, 0, 0, thing, other);
        p.surround(now.things[thing], other == NONE ? null : now.things[other]);
    }

    /** Without a wish all walls are wished alike, so that the shortest line is found. */
    private void search(Script law, Script wish, Plan p, int m, Choice found) {
        found.clear();
        int all = m * m * m * m;
        for (int i = 0; i < all; i++) {
            p.spreadBy(i, m);
            if (mayCome(law, p)) {
                found.weigh(wish == null ? 0 : wish.total(p.words), p);
            }
        }
    }

    // ---- ways and errands

    public int way(int family, int x, int y, int toX, int toY, int what) {
        if (!isFamily(family) || !now.hasCell(x, y) || !now.hasCell(toX, toY)
                || what < 0 || what > 2) {
            return NONE;
        }
        ways.survey(now, NONE);
        int steps = ways.walk(y * WIDEST + x, toY * WIDEST + toX, ways.steps);
        if (steps == NONE) {
            return REFUSED;
        }
        if (what == 1) {
            return steps;
        }
        ways.settle(family, x, y, toX, toY);
        return what == 0 ? ways.coins : ways.asks;
    }

    public boolean errand(int k, int family, int x, int y, int toX, int toY) {
        if (k < 0 || k >= ERRANDS || !isFamily(family) || !isErrandCell(x, y)
                || !isErrandCell(toX, toY)) {
            return false;
        }
        now.errands[k].set(family, x, y, toX, toY);
        return true;
    }

    private static boolean isErrandCell(int x, int y) {
        return x >= 0 && x < WIDEST && y >= 0 && y < WIDEST;
    }

    public int sum(int what) {
        if (what < 0 || what > 1) {
            return NONE;
        }
        ways.survey(now, NONE);
        return total(what == 0);
    }

    /** Over the ways as they are surveyed: coins or steps of all errands. */
    private int total(boolean ofCoins) {
        int total = 0;
        for (int k = 0; k < ERRANDS; k++) {
            Errand it = now.errands[k];
            if (it.told) {
                int steps = now.hasEnds(it) ? ways.walk(it.from(), it.to(), ways.steps) : NONE;
                if (steps == NONE) {
                    total += ofCoins ? NO_WAY_COINS : NO_WAY_STEPS;
                } else if (ofCoins) {
                    ways.settle(it.family, it.x, it.y, it.toX, it.toY);
                    total += ways.coins;
                } else {
                    total += steps;
                }
            }
        }
        return total;
    }

    public int where(int wall, int what) {
        if (!now.isWall(wall) || what < 0 || what > 1) {
            return NONE;
        }
        ways.survey(now, NONE);
        ways.clearGates();
        for (int k = 0; k < ERRANDS; k++) {
            Errand it = now.errands[k];
            // No way goes over one line twice, so a gate matters only to who has to cross it.
            if (it.told && now.hasEnds(it) && now.things[wall].parts(it)) {
                ways.tryGates(now.things[wall], it);
            }
        }
        int found = ways.bestGate(now.things[wall]);
        return what == 0 ? found / WIDEST : found % WIDEST;
    }

    public int gains(int wall) {
        if (!now.isWall(wall)) {
            return NO_GAIN;
        }
        ways.survey(now, NONE);
        int with = total(false);
        ways.survey(now, wall);
        return with - total(false);
    }

    // ---- years and images

    public int seed(int x) {
        if (x < 0) {
            return NONE;
        }
        int was = now.seed;
        now.seed = x;
        return was;
    }

    public int years(int law, int n) {
        Script script = lawAt(law);
        if (script == null || n < 1 || n > MOST_YEARS || now.year + n > LAST_YEAR) {
            return NONE;
        }
        return live(script, n);
    }

    public int after(int law, int n, int what) {
        Script script = lawAt(law);
        if (script == null || n < 0 || n > MOST_YEARS || what < 0 || what > 3) {
            return NONE;
        }
        State kept = now;
        spare.copyFrom(kept);
        now = spare;
        live(script, n);
        int found = outlook(what);
        now = kept;
        return found;
    }

    private int outlook(int what) {
        switch (what) {
            case 0: return now.wallCount();
            case 1: return now.nestCount();
            case 2: return now.deepest();
            default: return now.freeCells();
        }
    }

    /** Lets years pass: how many walls come. */
    private int live(Script law, int n) {
        int came = 0;
        for (int i = 0; i < n; i++) {
            if (now.houses > 0 && drawWall(law)) {
                came++;
            }
            now.year++;
        }
        return came;
    }

    private boolean drawWall(Script law) {
        int family = now.draw() % FAMILIES;
        int thing = now.outermostAt(now.draw());
        int l = 1 + now.draw() % 3;
        int u = 1 + now.draw() % 3;
        int r = 1 + now.draw() % 3;
        int d = 1 + now.draw() % 3;
        int number = now.freeNumber();
        if (thing == NONE || number == NONE) {
            return false;
        }
        aim(plan, family, thing, NONE);
        plan.spread(l, u, r, d);
        if (!mayCome(law, plan)) {
            return false;
        }
        now.raise(number, plan);
        return true;
    }

    public int image(int k) {
        if (k < 0 || k >= IMAGES) {
            return NONE;
        }
        State made = images[k];
        if (made == null) {
            made = new State();
            images[k] = made;
        }
        made.copyFrom(now);
        return now.wallCount();
    }

    public int back(int k) {
        if (k < 0 || k >= IMAGES) {
            return NONE;
        }
        State made = images[k];
        if (made == null) {
            return NONE;
        }
        now.copyFrom(made);
        sums.rebuild(now);
        return now.wallCount();
    }

    // ---- what a state is made of

    /** A house or a wall; a slot without one is not there. */
    private static final class Thing {
        boolean there;
        int x;
        int y;
        int toX;
        int toY;
        int owner = NONE;
        int round = NONE;
        int deep;
        int side = NONE;
        int place;
        int toll;
        int keys;

        void copyFrom(Thing from) {
            there = from.there;
            x = from.x;
            y = from.y;
            toX = from.toX;
            toY = from.toY;
            owner = from.owner;
            round = from.round;
            deep = from.deep;
            side = from.side;
            place = from.place;
            toll = from.toll;
            keys = from.keys;
        }

        void rise(int left, int up, int right, int down, int family) {
            there = true;
            x = left;
            y = up;
            toX = right;
            toY = down;
            owner = family;
            round = NONE;
            deep = 0;
            side = NONE;
            place = 0;
            toll = 0;
            keys = 0;
        }

        int area() {
            return (toX - x) * (toY - y);
        }

        int lengthOf(int ofSide) {
            return ofSide % 2 == 0 ? toX - x : toY - y;
        }

        boolean has(int cellX, int cellY) {
            return x <= cellX && cellX < toX && y <= cellY && cellY < toY;
        }

        boolean parts(Errand it) {
            return has(it.x, it.y) != has(it.toX, it.toY);
        }

        int tollFor(int family) {
            return owner == family || (keys >> family & 1) == 1 ? 0 : toll;
        }
    }

    private static final class Errand {
        boolean told;
        int family;
        int x;
        int y;
        int toX;
        int toY;

        void set(int ofFamily, int fromX, int fromY, int endX, int endY) {
            told = true;
            family = ofFamily;
            x = fromX;
            y = fromY;
            toX = endX;
            toY = endY;
        }

        void copyFrom(Errand from) {
            told = from.told;
            family = from.family;
            x = from.x;
            y = from.y;
            toX = from.toX;
            toY = from.toY;
        }

        int from() {
            return y * WIDEST + x;
        }

        int to() {
            return toY * WIDEST + toX;
        }
    }

    /** All that an image has. */
    private static final class State {
        static final int WORTH = 127;
        static final int RIVER = 128;
        static final int WELL = 256;

        int columns = 20;
        int rows = 20;
        int houses;
        int year;
        int seed;
        final int[] cells = new int[CELLS];
        final int[] likes = new int[FAMILIES * FAMILIES];
        final Thing[] things = new Thing[SLOTS];
        final Errand[] errands = new Errand[ERRANDS];

        State() {
            Arrays.fill(cells, 1);
            for (int i = 0; i < SLOTS; i++) {
                things[i] = new Thing();
            }
            for (int i = 0; i < ERRANDS; i++) {
                errands[i] = new Errand();
            }
        }

        void copyFrom(State from) {
            columns = from.columns;
            rows = from.rows;
            houses = from.houses;
            year = from.year;
            keepFeelings(from);
            System.arraycopy(from.cells, 0, cells, 0, CELLS);
            for (int i = 0; i < SLOTS; i++) {
                things[i].copyFrom(from.things[i]);
            }
            for (int i = 0; i < ERRANDS; i++) {
                errands[i].copyFrom(from.errands[i]);
            }
        }

        /** What stays when another land comes. */
        void keepFeelings(State from) {
            seed = from.seed;
            System.arraycopy(from.likes, 0, likes, 0, likes.length);
        }

        void wipe() {
            columns = 20;
            rows = 20;
            houses = 0;
            year = 0;
            Arrays.fill(cells, 1);
            for (int i = 0; i < SLOTS; i++) {
                things[i].there = false;
            }
            for (int i = 0; i < ERRANDS; i++) {
                errands[i].told = false;
            }
        }

        boolean hasCell(int x, int y) {
            return x >= 0 && x < columns && y >= 0 && y < rows;
        }

        boolean hasEnds(Errand it) {
            return hasCell(it.x, it.y) && hasCell(it.toX, it.toY);
        }

        boolean holds(Plan p) {
            return p.x >= 0 && p.y >= 0 && p.x < p.toX && p.y < p.toY
                    && p.toX <= columns && p.toY <= rows;
        }

        boolean isThere(int thing) {
            return thing >= 0 && thing < WALLS_END && things[thing].there;
        }

        boolean isWall(int thing) {
            return thing >= FIRST_WALL && isThere(thing);
        }

        /** A wall that is supposed counts here. */
        boolean isOutermost(int thing) {
            return thing >= 0 && thing < SLOTS && things[thing].there
                    && things[thing].round == NONE;
        }

        int wallCount() {
            int walls = 0;
            for (int i = FIRST_WALL; i < WALLS_END; i++) {
                if (things[i].there) {
                    walls++;
                }
            }
            return walls;
        }

        int wallsOf(int family) {
            int walls = 0;
            for (int i = FIRST_WALL; i < WALLS_END; i++) {
                if (things[i].there && things[i].owner == family) {
                    walls++;
                }
            }
            return walls;
        }

        /** How many families have no wall. */
        int wallless() {
            int families = 0;
            for (int i = 0; i < FAMILIES; i++) {
                if (wallsOf(i) == 0) {
                    families++;
                }
            }
            return families;
        }

        int nestCount() {
            int nests = 0;
            for (int i = 0; i < WALLS_END; i++) {
                if (isOutermost(i)) {
                    nests++;
                }
            }
            return nests;
        }

        /** Outermost things lie clear of one another and have all others in them. */
        int freeCells() {
            int cellsLeft = columns * rows;
            for (int i = 0; i < WALLS_END; i++) {
                if (isOutermost(i)) {
                    cellsLeft -= things[i].area();
                }
            }
            return cellsLeft;
        }

        int deepest() {
            int most = 0;
            for (int i = FIRST_WALL; i < WALLS_END; i++) {
                if (things[i].there) {
                    most = Math.max(most, things[i].deep);
                }
            }
            return most;
        }

        int freeNumber() {
            for (int i = FIRST_WALL; i < WALLS_END; i++) {
                if (!things[i].there) {
                    return i;
                }
            }
            return NONE;
        }

        /** The outermost thing at a drawn place, counted round and round. */
        int outermostAt(int drawn) {
            int nests = nestCount();
            int left = nests > 0 ? drawn % nests : 0;
            for (int i = 0; i < WALLS_END; i++) {
                if (isOutermost(i)) {
                    if (left == 0) {
                        return i;
                    }
                    left--;
                }
            }
            return NONE;
        }

        /** Of all things that have a cell the smallest lies in all others. */
        int innermostAt(int x, int y) {
            int found = NONE;
            for (int i = 0; i < WALLS_END; i++) {
                if (things[i].there && things[i].has(x, y)
                        && (found == NONE || things[i].area() < things[found].area())) {
                    found = i;
                }
            }
            return found;
        }

        boolean liesIn(int thing, int other) {
            int at = things[thing].round;
            for (int i = 0; i < SLOTS && at != NONE; i++) {
                if (at == other) {
                    return true;
                }
                at = things[at].round;
            }
            return false;
        }

        /** How many things one lies in. */
        int coversOf(int thing) {
            int covers = 0;
            int at = thing == NONE ? NONE : things[thing].round;
            for (int i = 0; i < SLOTS && at != NONE; i++) {
                covers++;
                at = things[at].round;
            }
            return covers;
        }

        int innermostOfAll() {
            int found = NONE;
            int most = NONE;
            for (int i = 0; i < WALLS_END; i++) {
                if (things[i].there && coversOf(i) > most) {
                    found = i;
                    most = coversOf(i);
                }
            }
            return found;
        }

        /** How many walls a wall has in it by being round this thing. */
        int deepRound(int thing) {
            return thing < FIRST_WALL ? 0 : 1 + things[thing].deep;
        }

        int likeTo(int family, Thing it) {
            return it == null || it.owner == NONE ? 0 : likes[family * FAMILIES + it.owner];
        }

        void raise(int number, Plan p) {
            int deep = deepRound(p.thing) + deepRound(p.other);
            Thing wall = things[number];
            wall.rise(p.x, p.y, p.toX, p.toY, p.family);
            wall.deep = deep;
            things[p.thing].round = number;
            if (p.other != NONE) {
                things[p.other].round = number;
            }
        }

        /** Raises the planned wall in the slot that has no number, in place of one in it. */
        void suppose(Plan p) {
            raise(TRIAL, p);
            things[TRIAL].round = NONE;
        }

        void forget(int thing) {
            things[TRIAL].there = false;
            things[thing].round = NONE;
        }

        void remove(int wall) {
            int outer = things[wall].round;
            for (int i = 0; i < WALLS_END; i++) {
                if (things[i].there && things[i].round == wall) {
                    things[i].round = outer;
                }
            }
            things[wall].there = false;
            int at = outer;
            for (int i = 0; i < SLOTS && at != NONE; i++) {
                things[at].deep--;
                at = things[at].round;
            }
        }

        int draw() {
            seed = (int) (seed * 1103515245L + 12345L & 2147483647L);
            return seed / 65536;
        }
    }

    /** Tables by which the cells of a rectangle are added up at once. */
    private static final class Sums {
        private static final int WIDE = WIDEST + 1;

        final int[] worth = new int[WIDE * WIDE];
        final int[] wells = new int[WIDE * WIDE];
        final int[] rivers = new int[WIDE * WIDE];
        /** Along each level line, and each upright one: pieces with rivers on both sides. */
        final int[] level = new int[WIDE * WIDE];
        final int[] upright = new int[WIDE * WIDE];

        /** A new object has no things to ask for, so the first land is the first to be added up. */
        void rebuild(State land) {
            for (int y = 0; y < land.rows; y++) {
                for (int x = 0; x < land.columns; x++) {
                    int cell = land.cells[y * WIDEST + x];
                    int at = (y + 1) * WIDE + x + 1;
                    grow(worth, at, cell & State.WORTH);
                    grow(rivers, at, (cell & State.RIVER) != 0 ? 1 : 0);
                    grow(wells, at, (cell & State.WELL) != 0 ? 1 : 0);
                }
            }
            rebuildLines(land);
        }

        private static void grow(int[] table, int at, int here) {
            table[at] = here + table[at - 1] + table[at - WIDE] - table[at - WIDE - 1];
        }

        private void rebuildLines(State land) {
            for (int y = 0; y <= land.rows; y++) {
                for (int x = 0; x < land.columns; x++) {
                    int at = y * WIDE + x;
                    level[at + 1] = level[at] + (areRivers(land, x, y, x, y - 1) ? 1 : 0);
                }
            }
            for (int x = 0; x <= land.columns; x++) {
                for (int y = 0; y < land.rows; y++) {
                    int at = x * WIDE + y;
                    upright[at + 1] = upright[at] + (areRivers(land, x, y, x - 1, y) ? 1 : 0);
                }
            }
        }

        private static boolean areRivers(State land, int x, int y, int toX, int toY) {
            return land.hasCell(x, y) && land.hasCell(toX, toY)
                    && (land.cells[y * WIDEST + x] & land.cells[toY * WIDEST + toX] & State.RIVER) != 0;
        }

        int inRectangle(int[] table, int x, int y, int toX, int toY) {
            return table[toY * WIDE + toX] - table[toY * WIDE + x]
                    - table[y * WIDE + toX] + table[y * WIDE + x];
        }

        int inThing(int[] table, Thing it) {
            return inRectangle(table, it.x, it.y, it.toX, it.toY);
        }

        int onGround(int[] table, Plan p, Thing one, Thing two) {
            int cells = inRectangle(table, p.x, p.y, p.toX, p.toY) - inThing(table, one);
            return two == null ? cells : cells - inThing(table, two);
        }

        boolean linesInRivers(Plan p) {
            return level[p.y * WIDE + p.toX] != level[p.y * WIDE + p.x]
                    || level[p.toY * WIDE + p.toX] != level[p.toY * WIDE + p.x]
                    || upright[p.x * WIDE + p.toY] != upright[p.x * WIDE + p.y]
                    || upright[p.toX * WIDE + p.toY] != upright[p.toX * WIDE + p.y];
        }
    }

    // ---- walls as they would be

    private static final class Plan {
        int family;
        int x;
        int y;
        int toX;
        int toY;
        int thing;
        int other = NONE;
        /** Walls of the builder that are only supposed. */
        int supposed;
        /** By how much it ends beyond its things, on the side where that is least. */
        int gap;
        /** The least rectangle that has its things. */
        private int coreX;
        private int coreY;
        private int coreToX;
        private int coreToY;
        int l;
        int u;
        int r;
        int d;
        final long[] words = new long[VALUE_WORDS];

        void set(int ofFamily, int left, int up, int right, int down, int first, int second) {
            family = ofFamily;
            x = left;
            y = up;
            toX = right;
            toY = down;
            thing = first;
            other = second;
            supposed = 0;
        }

        void surround(Thing one, Thing two) {
            coreX = two == null ? one.x : Math.min(one.x, two.x);
            coreY = two == null ? one.y : Math.min(one.y, two.y);
            coreToX = two == null ? one.toX : Math.max(one.toX, two.toX);
            coreToY = two == null ? one.toY : Math.max(one.toY, two.toY);
        }

        void spread(int left, int up, int right, int down) {
            l = left;
            u = up;
            r = right;
            d = down;
            x = coreX - left;
            y = coreY - up;
            toX = coreToX + right;
            toY = coreToY + down;
        }

        /** The margins up to m in their order: l, u, r, d are the digits of a number. */
        void spreadBy(int number, int m) {
            if (m > 0) {
                spread(1 + number / (m * m * m) % m, 1 + number / (m * m) % m,
                        1 + number / m % m, 1 + number % m);
            }
        }

        int area() {
            return (toX - x) * (toY - y);
        }

        int line() {
            return 2 * (toX - x + toY - y);
        }

        int gapTo(Thing it) {
            return Math.min(Math.min(it.x - x, it.y - y), Math.min(toX - it.toX, toY - it.toY));
        }

        boolean isClearOf(Thing it) {
            return areClear(x, toX, it.x, it.toX) || areClear(y, toY, it.y, it.toY);
        }

        private static boolean areClear(int from, int to, int otherFrom, int otherTo) {
            return to + 1 <= otherFrom || otherTo + 1 <= from;
        }
    }

    /** The best of the margins that were weighed. */
    private static final class Choice {
        int count;
        long value;
        int line;
        private int l;
        private int u;
        private int r;
        private int d;

        void clear() {
            count = 0;
        }

        void weigh(long worth, Plan p) {
            int length = p.line();
            if (count == 0 || worth > value || worth == value && length < line) {
                value = worth;
                line = length;
                l = p.l;
                u = p.u;
                r = p.r;
                d = p.d;
            }
            count++;
        }

        int margin(int what) {
            if (count == 0) {
                return REFUSED;
            }
            switch (what) {
                case 0: return l;
                case 1: return u;
                case 2: return r;
                default: return d;
            }
        }
    }

    // ---- ways

    /**
     * Walls lie in one another, each with one gate: which lines a way must go over is told by
     * its ends alone, and the shortest way goes over no other. So coins need no search.
     */
    private static final class Ways {
        /** From a cell to the one above, to the right, below, to the left. */
        private static final int[] BESIDE = {-WIDEST, 1, WIDEST, -1};

        final int[] steps = new int[CELLS];
        int coins;
        int asks;
        private final int[] backSteps = new int[CELLS];
        private final int[] queue = new int[CELLS];
        private final int[] innermost = new int[CELLS];
        /** Bits of the sides over which one may leave a cell. */
        private final int[] open = new int[CELLS];
        private final int[] gateCoins = new int[4 * WIDEST];
        private final int[] gateSteps = new int[4 * WIDEST];
        private State state;
        private int gone;

        /** Over the line of a wall that is gone anybody goes. */
        void survey(State of, int goneWall) {
            state = of;
            gone = goneWall;
            paintWalls();
            Arrays.fill(open, 0);
            for (int y = 0; y < of.rows; y++) {
                for (int x = 0; x < of.columns; x++) {
                    if (x + 1 < of.columns) {
                        join(x, y, 1);
                    }
                    if (y + 1 < of.rows) {
                        join(x, y, 2);
                    }
                }
            }
        }

        private void paintWalls() {
            Arrays.fill(innermost, NONE);
            for (int i = FIRST_WALL; i < WALLS_END; i++) {
                if (state.things[i].there) {
                    paint(i);
                }
            }
        }

        private void paint(int wall) {
            Thing it = state.things[wall];
            int area = it.area();
            for (int y = it.y; y < it.toY; y++) {
                for (int x = it.x; x < it.toX; x++) {
                    int at = y * WIDEST + x;
                    int was = innermost[at];
                    if (was == NONE || area < state.things[was].area()) {
                        innermost[at] = wall;
                    }
                }
            }
        }

        private void join(int x, int y, int side) {
            int from = y * WIDEST + x;
            int to = from + BESIDE[side];
            if (((state.cells[from] | state.cells[to]) & State.RIVER) == 0 && passes(x, y, side)) {
                open[from] |= 1 << side;
                open[to] |= 1 << (side + 2) % 4;
            }
        }

        /** No two lines lie on one another, so one step goes over one line at most. */
        private boolean passes(int x, int y, int side) {
            int from = innermost[y * WIDEST + x];
            int to = innermost[y * WIDEST + x + BESIDE[side]];
            if (from == to) {
                return true;
            }
            boolean leaves = from != NONE && state.things[from].round == to;
            int wall = leaves ? from : to;
            if (wall == NONE) {
                return false;
            }
            Thing it = state.things[wall];
            int itsSide = leaves ? side : (side + 2) % 4;
            int place = side % 2 == 0 ? x - it.x : y - it.y;
            return wall == gone || it.side == itsSide && it.place == place;
        }

        /** Fills in the steps from a cell, to all cells or till an end is found: the steps to it. */
        int walk(int from, int to, int[] found) {
            Arrays.fill(found, NONE);
            if ((state.cells[from] & State.RIVER) != 0) {
                return NONE;
            }
            found[from] = 0;
            queue[0] = from;
            int last = 1;
            for (int first = 0; first < last && first < CELLS; first++) {
                if (to != NONE && found[to] != NONE) {
                    break;
                }
                int at = queue[first];
                for (int side = 0; side < 4; side++) {
                    if ((open[at] >> side & 1) == 1 && found[at + BESIDE[side]] == NONE && last < CELLS) {
                        found[at + BESIDE[side]] = found[at] + 1;
                        queue[last] = at + BESIDE[side];
                        last++;
                    }
                }
            }
            return to == NONE ? NONE : found[to];
        }

        /** The coins of a way, and whom it asks: by the walls that part its ends. */
        void settle(int family, int x, int y, int toX, int toY) {
            coins = 0;
            asks = 0;
            for (int i = FIRST_WALL; i < WALLS_END; i++) {
                Thing it = state.things[i];
                if (it.there && it.has(x, y) != it.has(toX, toY)) {
                    int toll = it.tollFor(family);
                    coins += toll;
                    if (toll > 0) {
                        asks |= 1 << it.owner;
                    }
                }
            }
        }

        void clearGates() {
            Arrays.fill(gateCoins, 0);
            Arrays.fill(gateSteps, 0);
        }

        /**
         * Adds what the errand costs by each gate that the wall could have. Neither end's part of the
         * way goes over the wall's line, so the gate that the wall has does not matter to them.
         */
        void tryGates(Thing wall, Errand it) {
            walk(it.from(), NONE, steps);
            walk(it.to(), NONE, backSteps);
            settle(it.family, it.x, it.y, it.toX, it.toY);
            boolean leaves = wall.has(it.x, it.y);
            for (int side = 0; side < 4; side++) {
                for (int place = 0; place < wall.lengthOf(side); place++) {
                    addGate(wall, side, place, leaves);
                }
            }
        }

        private void addGate(Thing wall, int side, int place, boolean leaves) {
            int x = side == 1 ? wall.toX - 1 : side == 3 ? wall.x : wall.x + place;
            int y = side == 0 ? wall.y : side == 2 ? wall.toY - 1 : wall.y + place;
            int outerX = side == 1 ? x + 1 : side == 3 ? x - 1 : x;
            int outerY = side == 0 ? y - 1 : side == 2 ? y + 1 : y;
            int before = NONE;
            int behind = NONE;
            if (state.hasCell(outerX, outerY)) {
                int in = y * WIDEST + x;
                int out = outerY * WIDEST + outerX;
                before = steps[leaves ? in : out];
                behind = backSteps[leaves ? out : in];
            }
            boolean none = before == NONE || behind == NONE;
            gateCoins[side * WIDEST + place] += none ? NO_WAY_COINS : coins;
            gateSteps[side * WIDEST + place] += none ? NO_WAY_STEPS : before + 1 + behind;
        }

        /** The side, times 40, and the place. */
        int bestGate(Thing wall) {
            int found = 0;
            for (int side = 0; side < 4; side++) {
                for (int place = 0; place < wall.lengthOf(side); place++) {
                    int at = side * WIDEST + place;
                    if (gateCoins[at] < gateCoins[found]
                            || gateCoins[at] == gateCoins[found] && gateSteps[at] < gateSteps[found]) {
                        found = at;
                    }
                }
            }
            return found;
        }
    }

    // ---- the language

    /** Bytes, split into words, numbers and signs, along which a reader goes. */
    private static final class Tape {
        static final int MOST = 400;
        static final int END = 0;
        static final int WORD = 1;
        static final int NUMBER = 2;
        static final int SIGN = 3;
        /** Signs of two bytes. */
        static final int AT_MOST = 256;
        static final int AT_LEAST = 257;
        static final int CANT_STAND = 0;
        static final int BAD_NUMBER = 1;
        static final int TOO_DEEP = 2;
        static final int TOO_MANY_VALUES = 3;
        static final int TOO_MANY_CLAUSES = 4;
        static final int BAD_HOUSE = 5;
        private static final int MOST_DIGITS = 5;

        int length;
        int fault;
        /** What stands at the reader: its kind, its place, and which word, number or sign. */
        int kind;
        int place;
        int value;
        private final byte[] bytes = new byte[MOST];
        private final int[] kinds = new int[MOST + 1];
        private final int[] places = new int[MOST + 1];
        private final int[] values = new int[MOST + 1];
        private int parts;
        private int reader;

        boolean hasRoom() {
            return length + 20 <= MOST;
        }

        void append(int number) {
            for (int shift = 24; shift >= 0 && length < MOST; shift -= 8) {
                bytes[length] = (byte) (number >> shift);
                length++;
            }
        }

        /** Splits the bytes, and puts the reader at the first part. */
        void open() {
            parts = 0;
            int to = 0;
            for (int at = 0; at < length; at++) {
                if (at >= to && bytes[at] != ' ') {
                    to = split(at);
                    parts++;
                }
            }
            kinds[parts] = END;
            places[parts] = length;
            values[parts] = NONE;
            fault = 0;
            reader = NONE;
            next();
        }

        void next() {
            if (reader < parts) {
                reader++;
            }
            kind = kinds[reader];
            place = places[reader];
            value = values[reader];
        }

        private int split(int from) {
            int first = bytes[from];
            places[parts] = from;
            if (first >= 'a' && first <= 'z') {
                return splitWord(from);
            }
            if (first >= '0' && first <= '9') {
                return splitNumber(from);
            }
            boolean wide = (first == '<' || first == '>') && from + 1 < length && bytes[from + 1] == '=';
            kinds[parts] = SIGN;
            values[parts] = !wide ? first : first == '<' ? AT_MOST : AT_LEAST;
            return wide ? from + 2 : from + 1;
        }

        private int splitWord(int from) {
            int to = from;
            while (to < length && bytes[to] >= 'a' && bytes[to] <= 'z') {
                to++;
            }
            kinds[parts] = WORD;
            values[parts] = wordOf(from, to);
            return to;
        }

        /** The number of a word, NONE of one that is not told. */
        private int wordOf(int from, int to) {
            int word = 0;
            int at = from;
            boolean alike = true;
            for (int i = 0; i < WORDS.length(); i++) {
                char c = WORDS.charAt(i);
                if (c == ' ') {
                    if (alike && at == to) {
                        return word;
                    }
                    word++;
                    at = from;
                    alike = true;
                } else {
                    alike = alike && at < to && bytes[at] == c;
                    at++;
                }
            }
            return NONE;
        }

        /** A number of too many digits counts as NONE, which no range has. */
        private int splitNumber(int from) {
            int number = 0;
            int to = from;
            while (to < length && bytes[to] >= '0' && bytes[to] <= '9') {
                if (to - from < MOST_DIGITS) {
                    number = number * 10 + bytes[to] - '0';
                }
                to++;
            }
            kinds[parts] = NUMBER;
            values[parts] = to - from > MOST_DIGITS ? NONE : number;
            return to;
        }

        boolean isWord(int word) {
            return kind == WORD && value == word;
        }

        boolean isSign(int sign) {
            return kind == SIGN && value == sign;
        }

        boolean fail(int sort) {
            fault = 1 + 8 * place + sort;
            return false;
        }

        boolean failAt(int at, int sort) {
            fault = 1 + 8 * at + sort;
            return false;
        }

        /** Reads on behind a number: the number; NONE, and a fault, if it is not as told. */
        int number(int low, int high) {
            if (kind != NUMBER || value < low || value > high) {
                fail(kind == NUMBER ? BAD_NUMBER : CANT_STAND);
                return NONE;
            }
            int read = value;
            next();
            return read;
        }

        /** Behind a clause: whether another one follows; a fault if what stands there can't. */
        boolean goesOn() {
            if (kind == END) {
                return false;
            }
            if (!isSign(';')) {
                return fail(CANT_STAND);
            }
            next();
            return true;
        }
    }

    private static final class LandReader {
        private static final int MOST_CLAUSES = 24;

        private boolean wideTold;
        private int x;
        private int y;
        private int toX;
        private int toY;

        /** Makes the land; false if the tape has a fault. */
        boolean read(Tape tape, State land) {
            land.wipe();
            wideTold = false;
            tape.open();
            boolean more = true;
            for (int i = 0; i <= MOST_CLAUSES && more; i++) {
                more = readClause(tape, land, i) && tape.goesOn();
            }
            if (tape.fault == 0) {
                checkHouses(tape, land);
            }
            return tape.fault == 0;
        }

        private boolean readClause(Tape tape, State land, int clauses) {
            int word = tape.kind == Tape.WORD ? tape.value : NONE;
            boolean wide = word == WORD_WIDE;
            boolean house = word == WORD_HOUSE;
            if (!wide && !house && word != WORD_WORTH && word != WORD_RIVER && word != WORD_WELL) {
                return tape.fail(Tape.CANT_STAND);
            }
            if (clauses >= MOST_CLAUSES || wide && wideTold || house && land.houses >= MOST_HOUSES) {
                return tape.fail(Tape.TOO_MANY_CLAUSES);
            }
            tape.next();
            switch (word) {
                case WORD_WIDE: return readWide(tape, land);
                case WORD_HOUSE: return readHouse(tape, land);
                case WORD_WORTH: return readWorth(tape, land);
                case WORD_RIVER: return readRiver(tape, land);
                default: return readWell(tape, land);
            }
        }

        private boolean readWide(Tape tape, State land) {
            wideTold = true;
            int columns = tape.number(5, WIDEST);
            if (columns == NONE) {
                return false;
            }
            int rows = tape.number(5, WIDEST);
            if (rows == NONE) {
                return false;
            }
            land.columns = columns;
            land.rows = rows;
            return true;
        }

        private boolean readHouse(Tape tape, State land) {
            int place = tape.place;
            if (!readArea(tape)) {
                return false;
            }
            Thing house = land.things[land.houses];
            house.rise(x, y, toX, toY, NONE);
            for (int i = 0; i < land.houses; i++) {
                if (!isClearOf(land.things[i])) {
                    return tape.failAt(place, Tape.BAD_HOUSE);
                }
            }
            land.houses++;
            return true;
        }

        private boolean isClearOf(Thing it) {
            return Plan.areClear(x, toX, it.x, it.toX) || Plan.areClear(y, toY, it.y, it.toY);
        }

        private boolean readWorth(Tape tape, State land) {
            int worth = tape.number(0, 99);
            if (worth == NONE || !readArea(tape)) {
                return false;
            }
            mark(land, ~State.WORTH, worth);
            return true;
        }

        private boolean readRiver(Tape tape, State land) {
            if (!readArea(tape)) {
                return false;
            }
            mark(land, ~0, State.RIVER);
            return true;
        }

        private boolean readWell(Tape tape, State land) {
            x = tape.number(0, WIDEST - 1);
            if (x == NONE) {
                return false;
            }
            y = tape.number(0, WIDEST - 1);
            if (y == NONE) {
                return false;
            }
            land.cells[y * WIDEST + x] |= State.WELL;
            return true;
        }

        private boolean readArea(Tape tape) {
            x = tape.number(0, WIDEST);
            if (x == NONE) {
                return false;
            }
            y = tape.number(0, WIDEST);
            if (y == NONE) {
                return false;
            }
            toX = tape.number(x + 1, WIDEST);
            if (toX == NONE) {
                return false;
            }
            toY = tape.number(y + 1, WIDEST);
            return toY != NONE;
        }

        private void mark(State land, int kept, int put) {
            for (int row = y; row < toY; row++) {
                for (int column = x; column < toX; column++) {
                    int at = row * WIDEST + column;
                    land.cells[at] = land.cells[at] & kept | put;
                }
            }
        }

        /** Only here is it known how wide the land is. */
        private void checkHouses(Tape tape, State land) {
            for (int i = 0; i < land.houses; i++) {
                if (land.things[i].toX > land.columns || land.things[i].toY > land.rows) {
                    tape.failAt(tape.length, Tape.BAD_HOUSE);
                }
            }
        }
    }

    /** Reads a law or a wish into code that a stack runs: each value ahead of its sign. */
    private static final class ScriptReader {
        private static final int MOST_CLAUSES = 12;
        private static final int MOST_DEEP = 10;
        private static final int MOST_VALUES = 60;

        /** Each byte of the tape makes one part of the code at most, each clause two ends. */
        private final int[] code = new int[Tape.MOST + 2 * MOST_CLAUSES];
        private final int[] kinds = new int[MOST_CLAUSES];
        private final int[] sums = new int[MOST_CLAUSES];
        private final int[] tests = new int[MOST_CLAUSES];
        private Tape tape;
        private int length;
        private int clauses;
        private int values;
        private int join;

        /** The text; null if the tape has a fault. */
        Script read(Tape from, boolean isWish) {
            tape = from;
            length = 0;
            clauses = 0;
            values = 0;
            join = NONE;
            tape.open();
            boolean more = true;
            for (int i = 0; i <= MOST_CLAUSES && more; i++) {
                more = readClause(isWish) && tape.goesOn();
            }
            if (tape.fault != 0) {
                return null;
            }
            return new Script(Arrays.copyOf(code, length), Arrays.copyOf(kinds, clauses),
                    Arrays.copyOf(sums, clauses), Arrays.copyOf(tests, clauses), join == 1);
        }

        private boolean readClause(boolean isWish) {
            int word = tape.kind == Tape.WORD ? tape.value : NONE;
            boolean known = isWish ? word == WORD_WANT : word >= WORD_FAR && word <= WORD_JOIN;
            if (!known) {
                return tape.fail(Tape.CANT_STAND);
            }
            if (clauses >= MOST_CLAUSES || word == WORD_JOIN && join != NONE) {
                return tape.fail(Tape.TOO_MANY_CLAUSES);
            }
            kinds[clauses] = word;
            sums[clauses] = NONE;
            tests[clauses] = NONE;
            clauses++;
            tape.next();
            if (word == WORD_JOIN) {
                join = tape.number(0, 1);
                return join != NONE;
            }
            boolean sound = true;
            boolean tested = word == WORD_MAY || word == WORD_NOT;
            if (!tested) {
                sums[clauses - 1] = length;
                sound = readSum();
                put(Script.STOP);
                tested = sound && tape.isWord(WORD_IF);
                if (tested) {
                    tape.next();
                }
            }
            if (tested) {
                tests[clauses - 1] = length;
                sound = readTest(0);
                put(Script.STOP);
            }
            return sound;
        }

        /** An or waits until all that and joins behind it is read. */
        private boolean readTest(int depth) {
            boolean sound = readFact(depth);
            boolean waits = false;
            for (int i = 0; i < Tape.MOST && sound; i++) {
                if (tape.isWord(WORD_AND)) {
                    tape.next();
                    sound = readFact(depth);
                    put(Script.AND);
                } else if (tape.isWord(WORD_OR)) {
                    if (waits) {
                        put(Script.OR);
                    }
                    waits = true;
                    tape.next();
                    sound = readFact(depth);
                } else {
                    break;
                }
            }
            if (waits) {
                put(Script.OR);
            }
            return sound;
        }

        private boolean readFact(int depth) {
            if (tape.isWord(WORD_NOT) || tape.isSign('[')) {
                return readNested(depth);
            }
            if (!readSum()) {
                return false;
            }
            int sign = tape.kind == Tape.SIGN ? Script.comparisonOf(tape.value) : NONE;
            if (sign == NONE) {
                return tape.fail(Tape.CANT_STAND);
            }
            if (values >= MOST_VALUES) {
                return tape.fail(Tape.TOO_MANY_VALUES);
            }
            values++;
            tape.next();
            boolean sound = readSum();
            put(sign);
            return sound;
        }

        /** What a not or a bracket opens. */
        private boolean readNested(int depth) {
            if (depth >= MOST_DEEP) {
                return tape.fail(Tape.TOO_DEEP);
            }
            boolean not = tape.isWord(WORD_NOT);
            tape.next();
            if (not) {
                boolean sound = readFact(depth + 1);
                put(Script.NOT);
                return sound;
            }
            if (!readTest(depth + 1)) {
                return false;
            }
            if (!tape.isSign(']')) {
                return tape.fail(Tape.CANT_STAND);
            }
            tape.next();
            return true;
        }

        /** A plus or minus waits until all that is multiplied behind it is read. */
        private boolean readSum() {
            boolean sound = readValue();
            int waits = NONE;
            for (int i = 0; i < Tape.MOST && sound && tape.kind == Tape.SIGN; i++) {
                int sign = Script.arithmeticOf(tape.value);
                if (sign == NONE) {
                    break;
                }
                boolean adds = sign == Script.PLUS || sign == Script.MINUS;
                if (adds) {
                    if (waits != NONE) {
                        put(waits);
                    }
                    waits = sign;
                }
                tape.next();
                sound = readValue();
                if (!adds) {
                    put(sign);
                }
            }
            if (waits != NONE) {
                put(waits);
            }
            return sound;
        }

        private boolean readValue() {
            boolean number = tape.kind == Tape.NUMBER;
            boolean word = tape.kind == Tape.WORD && tape.value >= 0 && tape.value < VALUE_WORDS;
            if (!number && !word) {
                return tape.fail(Tape.CANT_STAND);
            }
            if (number && tape.value == NONE) {
                return tape.fail(Tape.BAD_NUMBER);
            }
            if (values >= MOST_VALUES) {
                return tape.fail(Tape.TOO_MANY_VALUES);
            }
            values++;
            put(number ? tape.value : Script.FIRST_WORD - tape.value);
            tape.next();
            return true;
        }

        private void put(int part) {
            if (length < code.length) {
                code[length] = part;
                length++;
            }
        }
    }

    /** A law or a wish. Its code: numbers as they are, all else below 0. */
    private static final class Script {
        static final int STOP = -1;
        static final int PLUS = -2;
        static final int MINUS = -3;
        static final int TIMES = -4;
        static final int BY = -5;
        static final int BELOW = -6;
        static final int AT_MOST = -7;
        static final int SAME = -8;
        static final int AT_LEAST = -9;
        static final int ABOVE = -10;
        static final int AND = -11;
        static final int OR = -12;
        static final int NOT = -13;
        /** Of this and those below it each is a word. */
        static final int FIRST_WORD = -20;

        final boolean joins;
        private final int[] code;
        private final int[] kinds;
        private final int[] sums;
        private final int[] tests;
        private final long[] stack = new long[64];

        Script(int[] code, int[] kinds, int[] sums, int[] tests, boolean joins) {
            this.code = code;
            this.kinds = kinds;
            this.sums = sums;
            this.tests = tests;
            this.joins = joins;
        }

        static int arithmeticOf(int sign) {
            switch (sign) {
                case '+': return PLUS;
                case '-': return MINUS;
                case '*': return TIMES;
                case '/': return BY;
                default: return NONE;
            }
        }

        static int comparisonOf(int sign) {
            switch (sign) {
                case '<': return BELOW;
                case Tape.AT_MOST: return AT_MOST;
                case '=': return SAME;
                case Tape.AT_LEAST: return AT_LEAST;
                case '>': return ABOVE;
                default: return NONE;
            }
        }

        /** How far out a wall must be. */
        int distance(long[] words) {
            for (int i = 0; i < kinds.length; i++) {
                if (kinds[i] == WORD_FAR && (tests[i] == NONE || run(tests[i], words) != 0)) {
                    return (int) Math.max(1, Math.min(WIDEST, run(sums[i], words)));
                }
            }
            return 1;
        }

        boolean allows(long[] words) {
            boolean asked = false;
            boolean granted = false;
            for (int i = 0; i < kinds.length; i++) {
                if (kinds[i] == WORD_NOT && run(tests[i], words) != 0) {
                    return false;
                }
                if (kinds[i] == WORD_MAY) {
                    asked = true;
                    granted = granted || run(tests[i], words) != 0;
                }
            }
            return granted || !asked;
        }

        long total(long[] words) {
            long total = 0;
            for (int i = 0; i < kinds.length; i++) {
                if (kinds[i] == WORD_WANT && (tests[i] == NONE || run(tests[i], words) != 0)) {
                    total += run(sums[i], words);
                }
            }
            return total;
        }

        private long run(int from, long[] words) {
            int size = 0;
            for (int i = Math.max(0, from); i < code.length && code[i] != STOP; i++) {
                int part = code[i];
                if (part >= 0 || part <= FIRST_WORD) {
                    if (size < stack.length) {
                        stack[size] = part >= 0 ? part : words[FIRST_WORD - part];
                        size++;
                    }
                } else if (part == NOT) {
                    if (size > 0) {
                        stack[size - 1] = 1 - stack[size - 1];
                    }
                } else if (size > 1) {
                    size--;
                    stack[size - 1] = apply(part, stack[size - 1], stack[size]);
                }
            }
            return size > 0 ? stack[0] : 0;
        }

        private static long apply(int part, long a, long b) {
            switch (part) {
                case PLUS: return a + b;
                case MINUS: return a - b;
                case TIMES: return a * b;
                case BY: return b == 0 ? 0 : a / b;
                case BELOW: return a < b ? 1 : 0;
                case AT_MOST: return a <= b ? 1 : 0;
                case SAME: return a == b ? 1 : 0;
                case AT_LEAST: return a >= b ? 1 : 0;
                case ABOVE: return a > b ? 1 : 0;
                case AND: return a & b;
                default: return a | b;
            }
        }
    }
}
