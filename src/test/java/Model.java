import java.util.ArrayList;
import java.util.Arrays;
import java.util.HashMap;
import java.util.List;
import java.util.Map;
import java.util.PriorityQueue;
import java.util.TreeMap;

/**
 * The document once more, as plainly and slowly as can be: cell by cell, gate by gate, copy by copy.
 * RandomRunsTest holds the class against it.
 */
final class Model {
    static final int NONE = -1;

    static final class Box {
        int x, y, toX, toY;

        Box(int x, int y, int toX, int toY) {
            this.x = x;
            this.y = y;
            this.toX = toX;
            this.toY = toY;
        }

        boolean has(int cx, int cy) {
            return cx >= x && cx < toX && cy >= y && cy < toY;
        }

        boolean clear(Box o) {
            return toX < o.x || o.toX < x || toY < o.y || o.toY < y;
        }

        boolean beyond(Box o, int by) {
            return x + by <= o.x && y + by <= o.y && toX - by >= o.toX && toY - by >= o.toY;
        }
    }

    static final class Wall {
        Box box;
        int owner;
        List<Integer> round = new ArrayList<>();
        int side = NONE, place, toll;
        boolean[] keys = new boolean[12];

        Wall copy() {
            Wall w = new Wall();
            w.box = box;
            w.owner = owner;
            w.round = new ArrayList<>(round);
            w.side = side;
            w.place = place;
            w.toll = toll;
            w.keys = keys.clone();
            return w;
        }
    }

    static final class World {
        int columns = 20, rows = 20, year, x;
        int[][] worth = new int[40][40];
        boolean[][] river = new boolean[40][40];
        boolean[][] well = new boolean[40][40];
        List<Box> houses = new ArrayList<>();
        TreeMap<Integer, Wall> walls = new TreeMap<>();
        int[][] like = new int[12][12];
        int[][] errands = new int[6][];

        World() {
            for (int[] w : worth) {
                Arrays.fill(w, 1);
            }
        }

        World copy() {
            World w = new World();
            w.columns = columns;
            w.rows = rows;
            w.year = year;
            w.x = x;
            w.worth = worth;
            w.river = river;
            w.well = well;
            w.houses = houses;
            for (Map.Entry<Integer, Wall> e : walls.entrySet()) {
                w.walls.put(e.getKey(), e.getValue().copy());
            }
            for (int i = 0; i < 12; i++) {
                w.like[i] = like[i].clone();
            }
            w.errands = errands.clone();
            return w;
        }

        boolean there(int t) {
            return t >= 0 && t < houses.size() || t >= 6 && walls.containsKey(t);
        }

        Box box(int t) {
            return t < 6 ? houses.get(t) : walls.get(t).box;
        }

        List<Integer> things() {
            List<Integer> all = new ArrayList<>();
            for (int i = 0; i < houses.size(); i++) {
                all.add(i);
            }
            all.addAll(walls.keySet());
            return all;
        }

        int roundOf(int t) {
            for (Map.Entry<Integer, Wall> e : walls.entrySet()) {
                if (e.getValue().round.contains(t)) {
                    return e.getKey();
                }
            }
            return NONE;
        }

        boolean in(int t, int other) {
            int r = roundOf(t);
            return r != NONE && (r == other || in(r, other));
        }

        int deep(int t) {
            int n = 0;
            for (int w : walls.keySet()) {
                if (in(w, t)) {
                    n++;
                }
            }
            return n;
        }

        List<Integer> outermost() {
            List<Integer> all = things();
            all.removeIf(t -> roundOf(t) != NONE);
            return all;
        }

        boolean cell(int cx, int cy) {
            return cx >= 0 && cy >= 0 && cx < columns && cy < rows;
        }

        int free() {
            int n = 0;
            for (int cy = 0; cy < rows; cy++) {
                for (int cx = 0; cx < columns; cx++) {
                    boolean in = false;
                    for (int t : things()) {
                        in |= box(t).has(cx, cy);
                    }
                    n += in ? 0 : 1;
                }
            }
            return n;
        }

        void put(int number, Box b, int owner, List<Integer> round) {
            Wall w = new Wall();
            w.box = b;
            w.owner = owner;
            w.round.addAll(round);
            walls.put(number, w);
        }

        void pull(int number) {
            int outer = roundOf(number);
            Wall gone = walls.remove(number);
            if (outer != NONE) {
                Wall o = walls.get(outer);
                o.round.remove((Integer) number);
                o.round.addAll(gone.round);
            }
        }

        int freeNumber() {
            for (int i = 6; i < 30; i++) {
                if (!walls.containsKey(i)) {
                    return i;
                }
            }
            return NONE;
        }
    }

    // ---- the language, read straight off the bytes

    static final class Fault extends RuntimeException {
        private static final long serialVersionUID = 1;
        final int code;

        Fault(int place, int sort) {
            super(null, null, false, false);
            code = 1 + 8 * place + sort;
        }
    }

    interface Num {
        long of(Map<String, Long> words);
    }

    interface Test {
        boolean of(Map<String, Long> words);
    }

    static final class Clause {
        String kind;
        Num sum;
        Test test;
    }

    static final class Law {
        List<Clause> clauses = new ArrayList<>();
        int join;
    }

    static final class Reader {
        final String s;
        int at;
        int nodes;

        Reader(String s) {
            this.s = s;
        }

        void blanks() {
            while (at < s.length() && s.charAt(at) == ' ') {
                at++;
            }
        }

        char peek() {
            blanks();
            return at < s.length() ? s.charAt(at) : (char) 0xffff;
        }

        boolean ended() {
            blanks();
            return at == s.length();
        }

        String word() {
            blanks();
            int to = at;
            while (to < s.length() && s.charAt(to) >= 'a' && s.charAt(to) <= 'z') {
                to++;
            }
            return s.substring(at, to);
        }

        String digits() {
            blanks();
            int to = at;
            while (to < s.length() && s.charAt(to) >= '0' && s.charAt(to) <= '9') {
                to++;
            }
            return s.substring(at, to);
        }

        int number(int low, int high) {
            String d = digits();
            if (d.isEmpty()) {
                throw new Fault(at, 0);
            }
            if (d.length() > 5 || Integer.parseInt(d) < low || Integer.parseInt(d) > high) {
                throw new Fault(at, 1);
            }
            at += d.length();
            return Integer.parseInt(d);
        }

        Box area() {
            int x = number(0, 40);
            int y = number(0, 40);
            int toX = number(x + 1, 40);
            return new Box(x, y, toX, number(y + 1, 40));
        }

        boolean semicolon() {
            if (ended()) {
                return false;
            }
            if (peek() != ';') {
                throw new Fault(at, 0);
            }
            at++;
            return true;
        }

        World land() {
            World w = new World();
            int clauses = 0;
            boolean wide = false;
            do {
                String word = word();
                if (!List.of("wide", "worth", "river", "well", "house").contains(word)) {
                    throw new Fault(at, 0);
                }
                if (++clauses > 24 || word.equals("wide") && wide || word.equals("house") && w.houses.size() == 6) {
                    throw new Fault(at, 4);
                }
                at += word.length();
                switch (word) {
                    case "wide" -> {
                        wide = true;
                        w.columns = number(5, 40);
                        w.rows = number(5, 40);
                    }
                    case "worth" -> {
                        int n = number(0, 99);
                        Box b = area();
                        for (int y = b.y; y < b.toY; y++) {
                            Arrays.fill(w.worth[y], b.x, b.toX, n);
                        }
                    }
                    case "river" -> {
                        Box b = area();
                        for (int y = b.y; y < b.toY; y++) {
                            Arrays.fill(w.river[y], b.x, b.toX, true);
                        }
                    }
                    case "well" -> {
                        int x = number(0, 39);
                        w.well[number(0, 39)][x] = true;
                    }
                    default -> {
                        blanks();
                        int place = at;
                        Box b = area();
                        for (Box o : w.houses) {
                            if (!b.clear(o)) {
                                throw new Fault(place, 5);
                            }
                        }
                        w.houses.add(b);
                    }
                }
            } while (semicolon());
            for (Box b : w.houses) {
                if (b.toX > w.columns || b.toY > w.rows) {
                    throw new Fault(s.length(), 5);
                }
            }
            return w;
        }

        Law law(boolean wish) {
            Law law = new Law();
            boolean joined = false;
            do {
                String word = word();
                if (!(wish ? List.of("want") : List.of("far", "may", "not", "join")).contains(word)) {
                    throw new Fault(at, 0);
                }
                if (law.clauses.size() == 12 || word.equals("join") && joined) {
                    throw new Fault(at, 4);
                }
                at += word.length();
                Clause c = new Clause();
                c.kind = word;
                law.clauses.add(c);
                if (word.equals("join")) {
                    joined = true;
                    law.join = number(0, 1);
                } else if (word.equals("may") || word.equals("not")) {
                    c.test = test(0);
                } else {
                    c.sum = sum();
                    if (word().equals("if")) {
                        at += 2;
                        c.test = test(0);
                    }
                }
            } while (semicolon());
            return law;
        }

        Test test(int depth) {
            Test t = part(depth);
            while (word().equals("or")) {
                at += 2;
                Test a = t;
                Test b = part(depth);
                t = w -> a.of(w) || b.of(w);
            }
            return t;
        }

        Test part(int depth) {
            Test t = fact(depth);
            while (word().equals("and")) {
                at += 3;
                Test a = t;
                Test b = fact(depth);
                t = w -> a.of(w) && b.of(w);
            }
            return t;
        }

        Test fact(int depth) {
            boolean not = word().equals("not");
            if (not || peek() == '[') {
                if (depth == 10) {
                    throw new Fault(at, 2);
                }
                at += not ? 3 : 1;
                if (not) {
                    Test t = fact(depth + 1);
                    return w -> !t.of(w);
                }
                Test t = test(depth + 1);
                if (peek() != ']') {
                    throw new Fault(at, 0);
                }
                at++;
                return t;
            }
            Num a = sum();
            String sign = "";
            char c = peek();
            if (c == '<' || c == '>' || c == '=') {
                sign = "" + c;
                if (c != '=' && at + 1 < s.length() && s.charAt(at + 1) == '=') {
                    sign += "=";
                }
            }
            if (sign.isEmpty()) {
                throw new Fault(at, 0);
            }
            if (++nodes > 60) {
                throw new Fault(at, 3);
            }
            at += sign.length();
            Num b = sum();
            return switch (sign) {
                case "<" -> w -> a.of(w) < b.of(w);
                case "<=" -> w -> a.of(w) <= b.of(w);
                case "=" -> w -> a.of(w) == b.of(w);
                case ">=" -> w -> a.of(w) >= b.of(w);
                default -> w -> a.of(w) > b.of(w);
            };
        }

        Num sum() {
            Num n = term();
            while (peek() == '+' || peek() == '-') {
                boolean plus = s.charAt(at++) == '+';
                Num a = n;
                Num b = term();
                n = plus ? w -> a.of(w) + b.of(w) : w -> a.of(w) - b.of(w);
            }
            return n;
        }

        Num term() {
            Num n = value();
            while (peek() == '*' || peek() == '/') {
                boolean times = s.charAt(at++) == '*';
                Num a = n;
                Num b = value();
                n = times ? w -> a.of(w) * b.of(w) : w -> b.of(w) == 0 ? 0 : a.of(w) / b.of(w);
            }
            return n;
        }

        static final List<String> WORDS = List.of("long", "width", "height", "ground", "worth", "wells",
                "river", "deep", "like", "own", "year", "two");

        Num value() {
            String d = digits();
            if (d.length() > 5) {
                throw new Fault(at, 1);
            }
            String word = word();
            if (d.isEmpty() && !WORDS.contains(word)) {
                throw new Fault(at, 0);
            }
            if (++nodes > 60) {
                throw new Fault(at, 3);
            }
            at += d.length() + word.length();
            if (d.isEmpty()) {
                return w -> w.get(word);
            }
            long n = Long.parseLong(d);
            return w -> n;
        }
    }

    // ---- the object

    StringBuilder tape = new StringBuilder();
    List<Law> laws = new ArrayList<>();
    List<Law> wishes = new ArrayList<>();
    World w = new World();
    World[] images = new World[4];

    int feed(int... five) {
        if (tape.length() + 20 > 400) {
            return NONE;
        }
        for (int n : five) {
            for (int i = 3; i >= 0; i--) {
                tape.append((char) (n >>> 8 * i & 255));
            }
        }
        return tape.length();
    }

    int end(int n) {
        if (n < 0 || n > tape.length()) {
            return NONE;
        }
        tape.setLength(n);
        return n;
    }

    private String take() {
        String s = tape.toString();
        tape.setLength(0);
        return s;
    }

    int land() {
        try {
            World made = new Reader(take()).land();
            made.like = w.like;
            made.x = w.x;
            w = made;
            return w.houses.size();
        } catch (Fault f) {
            return -2 - f.code;
        }
    }

    int text(int sort) {
        if (sort != 0 && sort != 1) {
            return NONE;
        }
        List<Law> of = sort == 0 ? laws : wishes;
        if (of.size() == 6) {
            return NONE;
        }
        try {
            of.add(new Reader(take()).law(sort == 1));
            return of.size() - 1;
        } catch (Fault f) {
            return -2 - f.code;
        }
    }

    static boolean family(int f) {
        return f >= 0 && f <= 11;
    }

    int like(int of, int to, int n) {
        if (!family(of) || !family(to) || of == to || Math.abs((long) n) > 9) {
            return -100;
        }
        int was = w.like[of][to];
        w.like[of][to] = n;
        return was;
    }

    static Map<String, Long> words(World w, int f, Box b, List<Integer> round) {
        long ground = 0, worth = 0, wells = 0, river = 0, deep = 0, like = 0, own = 0;
        for (int y = b.y; y < b.toY; y++) {
            for (int x = b.x; x < b.toX; x++) {
                boolean in = false;
                for (int t : round) {
                    in |= w.box(t).has(x, y);
                }
                if (!in) {
                    ground++;
                    worth += w.worth[y][x];
                    wells += w.well[y][x] ? 1 : 0;
                    river += w.river[y][x] ? 1 : 0;
                }
            }
        }
        for (int t : round) {
            if (t >= 6) {
                deep += 1 + w.deep(t);
                like += w.like[f][w.walls.get(t).owner];
            }
        }
        for (Wall o : w.walls.values()) {
            own += o.owner == f ? 1 : 0;
        }
        Map<String, Long> m = new HashMap<>();
        long width = b.toX - b.x;
        long height = b.toY - b.y;
        m.put("long", width + width + height + height);
        m.put("width", width);
        m.put("height", height);
        m.put("ground", ground);
        m.put("worth", worth);
        m.put("wells", wells);
        m.put("river", river);
        m.put("deep", deep);
        m.put("like", like);
        m.put("own", own);
        m.put("year", (long) w.year);
        m.put("two", round.size() == 2 ? 1L : 0L);
        return m;
    }

    static boolean rivers(World w, int x, int y, int toX, int toY) {
        return w.cell(x, y) && w.cell(toX, toY) && w.river[y][x] && w.river[toY][toX];
    }

    static boolean can(World w, Law law, int f, Box b, List<Integer> round) {
        if (b.x < 0 || b.y < 0 || b.toX > w.columns || b.toY > w.rows) {
            return false;
        }
        if (round.size() == 2 && (law.join == 0 || round.get(0).equals(round.get(1)))) {
            return false;
        }
        for (int t : round) {
            if (w.roundOf(t) != NONE || !b.beyond(w.box(t), 1)) {
                return false;
            }
        }
        Map<String, Long> words = words(w, f, b, round);
        long far = 1;
        for (Clause c : law.clauses) {
            if (c.kind.equals("far") && (c.test == null || c.test.of(words))) {
                far = c.sum.of(words);
                break;
            }
        }
        far = far < 1 ? 1 : far > 40 ? 40 : far;
        for (int t : round) {
            if (!b.beyond(w.box(t), (int) far)) {
                return false;
            }
        }
        for (int t : w.outermost()) {
            if (!round.contains(t) && !b.clear(w.box(t))) {
                return false;
            }
        }
        for (int x = b.x; x < b.toX; x++) {
            if (rivers(w, x, b.y, x, b.y - 1) || rivers(w, x, b.toY, x, b.toY - 1)) {
                return false;
            }
        }
        for (int y = b.y; y < b.toY; y++) {
            if (rivers(w, b.x, y, b.x - 1, y) || rivers(w, b.toX, y, b.toX - 1, y)) {
                return false;
            }
        }
        boolean asks = false;
        boolean some = false;
        for (Clause c : law.clauses) {
            if (c.kind.equals("not") && c.test.of(words)) {
                return false;
            }
            if (c.kind.equals("may")) {
                asks = true;
                some |= c.test.of(words);
            }
        }
        return some || !asks;
    }

    static long wish(World w, Law wish, int f, Box b, List<Integer> round) {
        Map<String, Long> words = words(w, f, b, round);
        long n = 0;
        for (Clause c : wish.clauses) {
            if (c.test == null || c.test.of(words)) {
                n += c.sum.of(words);
            }
        }
        return n;
    }

    boolean law(int n) {
        return n >= 0 && n < laws.size();
    }

    boolean wished(int n) {
        return n >= 0 && n < wishes.size();
    }

    boolean these(int f, int thing, int other) {
        return family(f) && w.there(thing) && (other == NONE || w.there(other));
    }

    static List<Integer> round(int thing, int other) {
        return other == NONE ? List.of(thing) : List.of(thing, other);
    }

    int can(int law, int f, int x, int y, int toX, int toY, int thing, int other) {
        if (!law(law) || !these(f, thing, other)) {
            return NONE;
        }
        return can(w, laws.get(law), f, new Box(x, y, toX, toY), round(thing, other)) ? 1 : 0;
    }

    int build(int law, int f, int x, int y, int toX, int toY, int thing, int other) {
        int is = can(law, f, x, y, toX, toY, thing, other);
        if (is == NONE) {
            return NONE;
        }
        int n = w.freeNumber();
        if (is == 0 || n == NONE) {
            return -2;
        }
        w.put(n, new Box(x, y, toX, toY), f, round(thing, other));
        return n;
    }

    long wish(int wish, int f, int x, int y, int toX, int toY, int thing, int other) {
        if (!wished(wish) || !these(f, thing, other) || x < 0 || y < 0 || toX > w.columns || toY > w.rows
                || thing == other) {
            return 0;
        }
        Box b = new Box(x, y, toX, toY);
        for (int t : round(thing, other)) {
            Box o = w.box(t);
            if (w.roundOf(t) != NONE || o.x < x || o.y < y || o.toX > toX || o.toY > toY) {
                return 0;
            }
        }
        return wish(w, wishes.get(wish), f, b, round(thing, other));
    }

    boolean pull(int wall) {
        if (wall < 6 || !w.there(wall)) {
            return false;
        }
        w.pull(wall);
        return true;
    }

    boolean gate(int wall, int side, int place, int toll) {
        if (wall < 6 || !w.there(wall) || side < 0 || side > 3 || toll < 0 || toll > 999 || place < 0) {
            return false;
        }
        Wall it = w.walls.get(wall);
        int length = side == 0 || side == 2 ? it.box.toX - it.box.x : it.box.toY - it.box.y;
        if (place >= length) {
            return false;
        }
        it.side = side;
        it.place = place;
        it.toll = toll;
        return true;
    }

    boolean key(int wall, int f, boolean is) {
        if (wall < 6 || !w.there(wall) || !family(f) || w.walls.get(wall).keys[f] == is) {
            return false;
        }
        w.walls.get(wall).keys[f] = is;
        return true;
    }

    int thing(int t, int what) {
        if (!w.there(t) || what < 0 || what > 11) {
            return -2;
        }
        Box b = w.box(t);
        Wall it = w.walls.get(t);
        if (what < 4) {
            return new int[] {b.x, b.y, b.toX, b.toY}[what];
        }
        if (what == 7 || what == 8) {
            Map<String, Long> m = words(w, 0, b, it == null ? List.of() : it.round);
            return (int) (long) m.get(what == 7 ? "ground" : "worth");
        }
        boolean gated = it != null && it.side != NONE;
        return switch (what) {
            case 4 -> it == null ? NONE : it.owner;
            case 5 -> w.roundOf(t);
            case 6 -> w.deep(t);
            case 9 -> gated ? it.side : NONE;
            case 10 -> gated ? it.place : NONE;
            default -> gated ? it.toll : NONE;
        };
    }

    int cell(int x, int y, int what) {
        if (!w.cell(x, y) || what < 0 || what > 3) {
            return -2;
        }
        if (what == 3) {
            int found = NONE;
            for (int t : w.things()) {
                if (w.box(t).has(x, y) && (found == NONE || w.in(t, found))) {
                    found = t;
                }
            }
            return found;
        }
        return what == 0 ? w.worth[y][x] : (what == 1 ? w.river : w.well)[y][x] ? 1 : 0;
    }

    int inside(int t, int other) {
        return !w.there(t) || !w.there(other) ? NONE : w.in(t, other) ? 1 : 0;
    }

    static Box beyond(World w, List<Integer> round, int l, int u, int r, int d) {
        Box b = new Box(99, 99, -99, -99);
        for (int t : round) {
            Box o = w.box(t);
            b.x = Math.min(b.x, o.x - l);
            b.y = Math.min(b.y, o.y - u);
            b.toX = Math.max(b.toX, o.toX + r);
            b.toY = Math.max(b.toY, o.toY + d);
        }
        return b;
    }

    /** l, u, r, d, how many, the value; null if none. */
    static long[] best(World w, Law law, Law wish, int f, int next, List<Integer> round, int m) {
        long[] found = null;
        long count = 0;
        long line = 0;
        for (int l = 1; l <= m; l++) {
            for (int u = 1; u <= m; u++) {
                for (int r = 1; r <= m; r++) {
                    for (int d = 1; d <= m; d++) {
                        Box b = beyond(w, round, l, u, r, d);
                        if (!can(w, law, f, b, round)) {
                            continue;
                        }
                        count++;
                        long value = wish(w, wish, f, b, round);
                        if (next != NONE) {
                            World then = w.copy();
                            then.put(77, b, f, round);
                            long[] his = best(then, law, wish, next, NONE, List.of(77), m);
                            value -= his == null || his[5] < 0 ? 0 : his[5];
                        }
                        long length = 2L * (b.toX - b.x + b.toY - b.y);
                        if (found == null || value > found[5] || value == found[5] && length < line) {
                            found = new long[] {l, u, r, d, 0, value};
                            line = length;
                        }
                    }
                }
            }
        }
        if (found != null) {
            found[4] = count;
        }
        return found;
    }

    int best(int law, int wish, int f, int thing, int other, int m, int what) {
        if (!law(law) || !wished(wish) || !these(f, thing, other) || m < 1 || m > 4 || what < 0 || what > 4) {
            return NONE;
        }
        long[] found = best(w, laws.get(law), wishes.get(wish), f, NONE, round(thing, other), m);
        return found != null ? (int) found[what] : what == 4 ? 0 : -2;
    }

    int ahead(int law, int wish, int f, int next, int thing, int m, int what) {
        if (!law(law) || !wished(wish) || !these(f, thing, NONE) || !family(next) || next == f || m < 1 || m > 2
                || what < 0 || what > 3) {
            return NONE;
        }
        long[] found = best(w, laws.get(law), wishes.get(wish), f, next, List.of(thing), m);
        return found == null ? -2 : (int) found[what];
    }

    int least(int law, int f, int thing, int other, int m) {
        if (!law(law) || !these(f, thing, other) || m < 1 || m > 5) {
            return NONE;
        }
        int found = -2;
        for (int i = 0; i < 625; i++) {
            int l = i / 125 + 1, u = i / 25 % 5 + 1, r = i / 5 % 5 + 1, d = i % 5 + 1;
            if (Math.max(Math.max(l, u), Math.max(r, d)) <= m) {
                Box b = beyond(w, round(thing, other), l, u, r, d);
                int line = 2 * (b.toX - b.x + b.toY - b.y);
                if ((found == -2 || line < found) && can(w, laws.get(law), f, b, round(thing, other))) {
                    found = line;
                }
            }
        }
        return found;
    }

    int most(int law, int f, int thing) {
        if (!law(law) || !these(f, thing, NONE)) {
            return NONE;
        }
        World then = w.copy();
        int t = thing;
        for (int n = 0; n < 24; n++) {
            int margin = 1;
            while (margin < 10 && !can(then, laws.get(law), f, beyond(then, List.of(t), margin, margin, margin, margin),
                    List.of(t))) {
                margin++;
            }
            if (margin == 10) {
                return n;
            }
            then.put(100 + n, beyond(then, List.of(t), margin, margin, margin, margin), f, List.of(t));
            t = 100 + n;
        }
        return 24;
    }

    int nests(int what) {
        if (what == 0) {
            return w.outermost().size();
        }
        if (what == 1) {
            return w.free();
        }
        if (what == 2 || what == 3) {
            int found = NONE;
            int most = NONE;
            for (int t : w.things()) {
                int n = 0;
                for (int o : w.things()) {
                    n += w.in(t, o) ? 1 : 0;
                }
                if (n > most) {
                    most = n;
                    found = t;
                }
            }
            return what == 2 ? found : most;
        }
        if (what == 4) {
            int n = 0;
            for (int f = 0; f < 12; f++) {
                int g = f;
                n += w.walls.values().stream().anyMatch(o -> o.owner == g) ? 0 : 1;
            }
            return n;
        }
        return NONE;
    }

    int between(int t, int o) {
        if (t == o || !w.outermost().contains(t) || !w.outermost().contains(o)) {
            return NONE;
        }
        Box b = beyond(w, List.of(t, o), 1, 1, 1, 1);
        if (!w.cell(b.x, b.y) || !w.cell(b.toX - 1, b.toY - 1)) {
            return -2;
        }
        return (int) (long) words(w, 0, b, List.of(t, o)).get("ground");
    }

    // ---- ways, by Dijkstra's search over coins and steps

    static final int[] DX = {0, 1, 0, -1};
    static final int[] DY = {-1, 0, 1, 0};

    /** The toll of a step over wall lines; -1 if it can't be. What is asked comes into asked[0]. */
    static int toll(World w, int f, int x, int y, int side, int[] asked) {
        int toX = x + DX[side];
        int toY = y + DY[side];
        int coins = 0;
        for (Wall it : w.walls.values()) {
            boolean in = it.box.has(x, y);
            if (in != it.box.has(toX, toY)) {
                int itsSide = in ? side : (side + 2) % 4;
                int place = side % 2 == 0 ? x - it.box.x : y - it.box.y;
                if (it.side != itsSide || it.place != place) {
                    return -1;
                }
                if (it.owner != f && !it.keys[f] && it.toll > 0) {
                    coins += it.toll;
                    asked[0] |= 1 << it.owner;
                }
            }
        }
        return coins;
    }

    /** Coins, steps, asks; null if there is no way. */
    static int[] way(World w, int f, int x, int y, int toX, int toY) {
        if (!w.cell(x, y) || !w.cell(toX, toY) || w.river[y][x] || w.river[toY][toX]) {
            return null;
        }
        long[][] far = new long[w.rows][w.columns];
        for (long[] row : far) {
            Arrays.fill(row, Long.MAX_VALUE);
        }
        far[y][x] = 0;
        PriorityQueue<long[]> next = new PriorityQueue<>((a, b) -> Long.compare(a[0], b[0]));
        next.add(new long[] {0, x, y});
        while (!next.isEmpty()) {
            long[] at = next.poll();
            int ax = (int) at[1];
            int ay = (int) at[2];
            if (at[0] > far[ay][ax]) {
                continue;
            }
            for (int side = 0; side < 4; side++) {
                int bx = ax + DX[side];
                int by = ay + DY[side];
                if (w.cell(bx, by) && !w.river[by][bx]) {
                    int toll = toll(w, f, ax, ay, side, new int[1]);
                    long cost = at[0] + toll * 10000L + 1;
                    if (toll >= 0 && cost < far[by][bx]) {
                        far[by][bx] = cost;
                        next.add(new long[] {cost, bx, by});
                    }
                }
            }
        }
        long all = far[toY][toX];
        if (all == Long.MAX_VALUE) {
            return null;
        }
        int[] asked = new int[1];
        int ax = toX;
        int ay = toY;
        while (ax != x || ay != y) {
            for (int side = 0; side < 4; side++) {
                int bx = ax + DX[side];
                int by = ay + DY[side];
                if (w.cell(bx, by) && far[by][bx] != Long.MAX_VALUE) {
                    int[] here = new int[1];
                    int toll = toll(w, f, ax, ay, side, here);
                    if (toll >= 0 && far[by][bx] + toll * 10000L + 1 == far[ay][ax]) {
                        asked[0] |= here[0];
                        ax = bx;
                        ay = by;
                        break;
                    }
                }
            }
        }
        return new int[] {(int) (all / 10000), (int) (all % 10000), asked[0]};
    }

    int way(int f, int x, int y, int toX, int toY, int what) {
        if (!family(f) || !w.cell(x, y) || !w.cell(toX, toY) || what < 0 || what > 2) {
            return NONE;
        }
        int[] found = way(w, f, x, y, toX, toY);
        return found == null ? -2 : found[what];
    }

    boolean errand(int k, int f, int x, int y, int toX, int toY) {
        if (k < 0 || k > 5 || !family(f) || Math.min(Math.min(x, y), Math.min(toX, toY)) < 0
                || Math.max(Math.max(x, y), Math.max(toX, toY)) > 39) {
            return false;
        }
        w.errands[k] = new int[] {f, x, y, toX, toY};
        return true;
    }

    static long sums(World w) {
        long all = 0;
        for (int[] e : w.errands) {
            if (e != null) {
                int[] found = way(w, e[0], e[1], e[2], e[3], e[4]);
                all += found == null ? 999 * 1000000L + 9999 : found[0] * 1000000L + found[1];
            }
        }
        return all;
    }

    int sum(int what) {
        return what == 0 ? (int) (sums(w) / 1000000) : what == 1 ? (int) (sums(w) % 1000000) : NONE;
    }

    int where(int wall, int what) {
        if (wall < 6 || !w.there(wall) || what < 0 || what > 1) {
            return NONE;
        }
        World then = w.copy();
        Wall it = then.walls.get(wall);
        if (it.side == NONE) {
            it.toll = 0;
        }
        long least = Long.MAX_VALUE;
        int[] found = new int[2];
        for (int side = 0; side < 4; side++) {
            int length = side % 2 == 0 ? it.box.toX - it.box.x : it.box.toY - it.box.y;
            for (int place = 0; place < length; place++) {
                it.side = side;
                it.place = place;
                long all = sums(then);
                if (all < least) {
                    least = all;
                    found = new int[] {side, place};
                }
            }
        }
        return found[what];
    }

    int gains(int wall) {
        if (wall < 6 || !w.there(wall)) {
            return -100000;
        }
        World then = w.copy();
        then.pull(wall);
        return (int) (sums(w) % 1000000 - sums(then) % 1000000);
    }

    int seed(int x) {
        if (x < 0) {
            return NONE;
        }
        int was = w.x;
        w.x = x;
        return was;
    }

    static int draw(World w) {
        w.x = (int) ((w.x * 1103515245L + 12345) % 2147483648L);
        return w.x / 65536;
    }

    static int year(World w, Law law) {
        int came = 0;
        if (!w.houses.isEmpty()) {
            int f = draw(w) % 12;
            List<Integer> out = w.outermost();
            int t = out.get(draw(w) % out.size());
            int l = 1 + draw(w) % 3;
            int u = 1 + draw(w) % 3;
            int r = 1 + draw(w) % 3;
            int d = 1 + draw(w) % 3;
            Box b = beyond(w, List.of(t), l, u, r, d);
            if (w.freeNumber() != NONE && can(w, law, f, b, List.of(t))) {
                w.put(w.freeNumber(), b, f, List.of(t));
                came = 1;
            }
        }
        w.year++;
        return came;
    }

    int years(int law, int n) {
        if (!law(law) || n < 1 || n > 60 || w.year + n > 9999) {
            return NONE;
        }
        int came = 0;
        for (int i = 0; i < n; i++) {
            came += year(w, laws.get(law));
        }
        return came;
    }

    int after(int law, int n, int what) {
        if (!law(law) || n < 0 || n > 60 || what < 0 || what > 3) {
            return NONE;
        }
        World then = w.copy();
        for (int i = 0; i < n; i++) {
            year(then, laws.get(law));
        }
        int deepest = 0;
        for (int t : then.walls.keySet()) {
            deepest = Math.max(deepest, then.deep(t));
        }
        return new int[] {then.walls.size(), then.outermost().size(), deepest, then.free()}[what];
    }

    int count(int what) {
        int[] all = {w.columns, w.rows, w.houses.size(), w.walls.size(), w.year, w.x, laws.size(), wishes.size(),
            tape.length()};
        return what < 0 || what > 8 ? NONE : all[what];
    }

    int image(int k) {
        if (k < 0 || k > 3) {
            return NONE;
        }
        images[k] = w.copy();
        return w.walls.size();
    }

    int back(int k) {
        if (k < 0 || k > 3 || images[k] == null) {
            return NONE;
        }
        w = images[k].copy();
        return w.walls.size();
    }
}
