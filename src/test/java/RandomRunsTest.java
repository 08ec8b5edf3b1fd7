import java.util.Random;

/** Random runs of 512 calls, each answer held against the slow model's. */
public final class RandomRunsTest {
    private static final String[] VALUES = {"long", "width", "height", "ground", "worth", "wells", "river", "deep",
        "like", "own", "year", "two", "0", "1", "2", "3", "5", "7", "12", "40", "100", "99999", "00004"};
    private static final String[] SIGNS = {"<", "<=", "=", ">=", ">"};
    private static final String[] MARS = {" ", ";", "x", "if", "not", "[", "]", "and", "or", "123456", "41", "<", "=",
        "far", "join", "house", "wide", "+", "*", "0"};
    private static final int[] SEEN = new int[40];
    private static int faults;
    private static int wrong;

    private final Random random;
    private final long run;
    private RoundAnothers it = new RoundAnothers();
    private Model model = new Model();

    private RandomRunsTest(long run) {
        this.run = run;
        random = new Random(run);
    }

    public static void main(String[] args) {
        int runs = args.length > 1 ? Integer.parseInt(args[1]) : 150;
        int from = args.length > 2 ? Integer.parseInt(args[2]) : 0;
        for (int i = from; i < from + runs && wrong == 0; i++) {
            new RandomRunsTest(i).play();
        }
        StringBuilder seen = new StringBuilder();
        for (int n : SEEN) {
            seen.append(n).append(' ');
        }
        System.out.println("answers that were no refusals, by call: " + seen + "; faults: " + faults);
        System.exit(wrong == 0 ? 0 : 1);
    }

    private int below(int n) {
        return random.nextInt(n);
    }

    private String any(String[] of) {
        return of[below(of.length)];
    }

    private String sum() {
        StringBuilder s = new StringBuilder(any(VALUES));
        while (below(5) < 2) {
            s.append(below(3) == 0 ? "" : " ").append("+-*/".charAt(below(4))).append(below(3) == 0 ? "" : " ")
                    .append(any(VALUES));
        }
        return s.toString();
    }

    private String test(int depth) {
        int sort = below(depth > 4 ? 4 : 9);
        if (sort < 4) {
            return sum() + any(SIGNS) + sum();
        }
        return switch (sort) {
            case 4 -> "not " + (below(2) == 0 ? "[" + test(depth + 1) + "]" : sum() + any(SIGNS) + sum());
            case 5, 6 -> test(depth + 1) + (below(2) == 0 ? " and " : " or ") + test(depth + 1);
            default -> "[" + test(depth + 1) + " ]";
        };
    }

    private String script(boolean wish) {
        StringBuilder s = new StringBuilder();
        int clauses = 1 + below(below(12) == 0 ? 14 : 4);
        for (int i = 0; i < clauses; i++) {
            s.append(i == 0 ? "" : ";");
            int sort = below(10);
            if (wish) {
                s.append("want ").append(sum()).append(sort < 4 ? " if " + test(0) : "");
            } else if (sort < 4) {
                s.append("far ").append(sort < 3 ? "" + (1 + below(2)) : sum()).append(sort % 2 == 0 ? " if " + test(0) : "");
            } else if (sort < 5) {
                s.append("may ").append(test(0));
            } else if (sort < 6) {
                s.append("not ").append(test(0));
            } else {
                s.append(s.indexOf("join") < 0 || below(9) == 0 ? "join 1" : "far 1 if deep > 2");
            }
        }
        return s.toString();
    }

    private String area() {
        int x = below(below(3) == 0 ? 36 : 16);
        int y = below(below(3) == 0 ? 36 : 16);
        return x + " " + y + " " + (x + 1 + below(4)) + " " + (y + 1 + below(4));
    }

    private String land() {
        StringBuilder s = new StringBuilder();
        int clauses = 1 + below(below(10) == 0 ? 30 : 8);
        int wide = below(clauses + 1);
        for (int i = 0; i < clauses; i++) {
            s.append(i == 0 ? "" : below(2) == 0 ? ";" : " ; ");
            int sort = below(10);
            if (i == wide) {
                s.append("wide ").append(14 + below(27)).append(' ').append(14 + below(27));
            } else if (sort < 5) {
                int x = below(24);
                int y = below(24);
                s.append("house ").append(x).append(' ').append(y).append(' ').append(x + 1 + below(3)).append(' ')
                        .append(y + 1 + below(3));
            } else if (sort < 7) {
                s.append("worth ").append(below(100)).append(' ').append(area());
            } else if (sort < 8) {
                s.append("well ").append(below(20)).append(' ').append(below(20));
            } else {
                s.append("river ").append(area());
            }
        }
        return s.toString();
    }

    private String mar(String s) {
        int at = below(s.length() + 1);
        int to = Math.min(s.length(), at + below(3));
        return s.substring(0, at) + any(MARS) + s.substring(to);
    }

    private void due(int call, String name, long got, long want) {
        if (want >= 0) {
            SEEN[call]++;
        }
        if (got != want && wrong < 5) {
            wrong++;
            System.out.println("run " + run + ": " + name + " answered " + got + ", due is " + want);
        }
    }

    private void write(String text) {
        if (below(40) != 0) {
            due(2, "end", it.end(0), model.end(0));
        }
        String s = text.length() > 400 ? text.substring(0, 400) : text;
        for (int at = 0; at < s.length(); at += 20) {
            int[] five = new int[5];
            for (int i = 0; i < 20; i++) {
                int c = at + i < s.length() ? s.charAt(at + i) : 0;
                five[i / 4] |= c << 8 * (3 - i % 4);
            }
            due(1, "feed", it.feed(five[0], five[1], five[2], five[3], five[4]), model.feed(five));
        }
        if (below(40) != 0) {
            due(2, "end", it.end(s.length()), model.end(s.length()));
        }
    }

    private void writeLand() {
        String s = below(4) == 0 ? mar(land()) : land();
        write(s);
        long want = model.land();
        faults += want < 0 ? 1 : 0;
        due(3, "land " + s, it.land(), want);
    }

    private void writeScript(int sort) {
        String s = script(sort == 1);
        if (below(4) == 0) {
            s = mar(s);
        }
        write(s);
        long want = model.text(sort);
        faults += want < 0 ? 1 : 0;
        due(4, "text " + sort + " " + s, it.text(sort), want);
    }

    private void play() {
        for (int i = 0; i < 2; i++) {
            writeLand();
        }
        for (int i = 0; i < 5 && model.w.houses.size() < 2; i++) {
            write(soundLand());
            due(3, "land", it.land(), model.land());
        }
        write(below(2) == 0 ? "join 1" : "far 1;not long > 90;join 1");
        due(4, "text", it.text(0), model.text(0));
        for (int i = 0; i < 3; i++) {
            writeScript(0);
            writeScript(1);
        }
        for (int i = 0; i < 380 && wrong == 0; i++) {
            call();
        }
    }

    private String soundLand() {
        StringBuilder s = new StringBuilder("wide " + (16 + below(25)) + " " + (16 + below(25)));
        for (int i = 0; i < 2 + below(5); i++) {
            int x = 2 + 5 * (i % 3) + below(3);
            int y = 2 + 7 * (i / 3) + below(3);
            s.append(";house ").append(x).append(' ').append(y).append(' ').append(x + 1 + below(2)).append(' ')
                    .append(y + 1 + below(2));
        }
        for (int i = 0; i < below(5); i++) {
            int x = below(20);
            int y = below(20);
            s.append(below(2) == 0 ? ";river " + x + " " + y + " " + (x + 1 + below(3)) + " " + (y + 1 + below(3))
                    : ";worth " + below(100) + " " + area() + ";well " + x + " " + y);
        }
        return s.toString();
    }

    private int thing() {
        int some = below(8) == 0 ? below(34) - 2 : below(3) == 0 ? below(3) : 6 + below(5);
        return model.w.there(some) || below(4) == 0 ? some : below(3);
    }

    private int outermost() {
        int t = thing();
        for (int i = 0; i < 9 && model.w.there(t) && model.w.roundOf(t) != -1; i++) {
            t = model.w.roundOf(t);
        }
        return t;
    }

    private int other() {
        return below(3) != 0 ? -1 : outermost();
    }

    private int family() {
        return below(20) == 0 ? below(16) - 2 : below(4);
    }

    private int number(int most) {
        return below(15) == 0 ? below(most + 5) - 2 : below(most + 1);
    }

    private int margin() {
        return below(9) == 0 ? below(3) : below(3) == 0 ? 2 : 1;
    }

    private int coordinate() {
        return below(20) == 0 ? below(50) - 5 : below(25);
    }

    private void call() {
        int sort = below(31);
        if (below(6) == 0) {
            sort = 2;
        }
        switch (sort) {
            case 0, 1, 2, 3 -> wall(sort);
            case 4 -> {
                int a = thing();
                due(9, "pull " + a, it.pull(a) ? 1 : 0, model.pull(a) ? 1 : 0);
            }
            case 5, 6 -> {
                int a = thing(), b = number(3), c = number(6), d = below(5) == 0 ? number(999) : below(3);
                due(10, "gate", it.gate(a, b, c, d) ? 1 : 0, model.gate(a, b, c, d) ? 1 : 0);
            }
            case 7 -> {
                int a = thing(), b = family();
                boolean is = below(3) != 0;
                due(11, "key", it.key(a, b, is) ? 1 : 0, model.key(a, b, is) ? 1 : 0);
            }
            case 8, 9 -> {
                int a = thing(), b = number(11);
                due(12, "thing " + a + " " + b, it.thing(a, b), model.thing(a, b));
            }
            case 10 -> {
                int a = coordinate(), b = coordinate(), c = number(3);
                due(13, "cell " + a + " " + b + " " + c, it.cell(a, b, c), model.cell(a, b, c));
            }
            case 11 -> {
                int a = thing(), b = thing();
                due(14, "inside", it.inside(a, b), model.inside(a, b));
            }
            case 12 -> {
                int a = number(2), b = number(1), c = family(), d = outermost(), e = other(), f = number(4), g = number(4);
                due(15, "best", it.best(a, b, c, d, e, f, g), model.best(a, b, c, d, e, f, g));
            }
            case 13 -> {
                int a = number(2), b = number(1), c = family(), d = family(), e = outermost(), f = number(2), g = number(3);
                due(16, "ahead", it.ahead(a, b, c, d, e, f, g), model.ahead(a, b, c, d, e, f, g));
            }
            case 14 -> {
                int a = number(2), b = family(), c = outermost(), d = other(), e = number(5);
                due(17, "least", it.least(a, b, c, d, e), model.least(a, b, c, d, e));
            }
            case 15 -> {
                int a = number(2), b = family(), c = outermost();
                due(18, "most", it.most(a, b, c), model.most(a, b, c));
            }
            case 16 -> {
                int a = number(4);
                due(19, "nests " + a, it.nests(a), model.nests(a));
            }
            case 17 -> {
                int a = outermost(), b = outermost();
                due(20, "between", it.between(a, b), model.between(a, b));
            }
            case 18, 19 -> way();
            case 20 -> {
                int a = number(1);
                due(23, "sum " + a, it.sum(a), model.sum(a));
            }
            case 21 -> {
                int a = thing(), b = number(1);
                due(24, "where " + a + " " + b, it.where(a, b), model.where(a, b));
            }
            case 22 -> {
                int a = thing();
                due(25, "gains " + a, it.gains(a), model.gains(a));
            }
            case 23 -> {
                int a = below(5) == 0 ? -1 : random.nextInt();
                due(26, "seed", it.seed(a), model.seed(a));
            }
            case 24 -> {
                int a = number(2), b = below(3) == 0 ? number(60) : number(8);
                due(27, "years " + a + " " + b, it.years(a, b), model.years(a, b));
            }
            case 25 -> {
                int a = number(2), b = number(60), c = number(3);
                due(28, "after", it.after(a, b, c), model.after(a, b, c));
            }
            case 26 -> {
                int a = number(8);
                due(29, "count " + a, it.count(a), model.count(a));
            }
            case 27 -> {
                int a = number(3);
                due(30, "image " + a, it.image(a), model.image(a));
            }
            case 28 -> {
                int a = number(3);
                due(31, "back " + a, it.back(a), model.back(a));
            }
            case 29 -> {
                int a = family(), b = family(), c = below(9) == 0 ? below(40) - 20 : below(19) - 9;
                due(5, "like", it.like(a, b, c), model.like(a, b, c));
            }
            default -> {
                if (below(30) == 0) {
                    writeLand();
                } else if (below(3) == 0) {
                    writeScript(below(2));
                }
            }
        }
    }

    private void wall(int sort) {
        int law = below(2) == 0 ? 0 : number(3), f = family(), t = outermost(), o = other();
        int x = coordinate(), y = coordinate(), toX = x + 1 + below(9), toY = y + 1 + below(9);
        if (model.w.there(t) && below(8) != 0) {
            Model.Box b = model.w.box(t);
            boolean two = o != -1 && model.w.there(o);
            x = (two ? Math.min(b.x, model.w.box(o).x) : b.x) - margin();
            y = (two ? Math.min(b.y, model.w.box(o).y) : b.y) - margin();
            toX = (two ? Math.max(b.toX, model.w.box(o).toX) : b.toX) + margin();
            toY = (two ? Math.max(b.toY, model.w.box(o).toY) : b.toY) + margin();
        }
        String name = law + ", " + f + ", " + x + ", " + y + ", " + toX + ", " + toY + ", " + t + ", " + o;
        if (sort == 0) {
            due(6, "can " + name, it.can(law, f, x, y, toX, toY, t, o), model.can(law, f, x, y, toX, toY, t, o));
        } else if (sort == 1) {
            due(8, "wish " + name, it.wish(law, f, x, y, toX, toY, t, o), model.wish(law, f, x, y, toX, toY, t, o));
        } else {
            due(7, "build " + name, it.build(law, f, x, y, toX, toY, t, o), model.build(law, f, x, y, toX, toY, t, o));
        }
    }

    private void way() {
        int f = family(), x = coordinate(), y = coordinate(), toX = coordinate(), toY = coordinate();
        int t = thing();
        if (model.w.there(t) && below(3) != 0) {
            x = model.w.box(t).x;
            y = model.w.box(t).y;
        }
        if (below(2) == 0) {
            int what = number(2);
            due(21, "way", it.way(f, x, y, toX, toY, what), model.way(f, x, y, toX, toY, what));
        } else {
            int k = number(5);
            due(22, "errand", it.errand(k, f, x, y, toX, toY) ? 1 : 0, model.errand(k, f, x, y, toX, toY) ? 1 : 0);
        }
    }
}
