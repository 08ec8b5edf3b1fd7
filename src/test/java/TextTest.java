/** Promise 5: text, its faults, and what its sums and tests come to (by way of promise 9). */
public final class TextTest {
    private static final Check CHECK = new Check();

    public static void main(String[] args) {
        lawFaults();
        wishFaults();
        depth();
        values();
        clauses();
        numbers();
        sums();
        tests();
        words();
        CHECK.end();
    }

    private static void badLaw(String text, int place, int sort) {
        CHECK.due("law '" + text + "'", Check.law(new RoundAnothers(), text), Check.fault(place, sort));
    }

    private static void badWish(String text, int place, int sort) {
        CHECK.due("wish '" + text + "'", Check.wish(new RoundAnothers(), text), Check.fault(place, sort));
    }

    private static void soundLaw(String text) {
        CHECK.due("law '" + text + "'", Check.law(new RoundAnothers(), text), 0);
    }

    private static void soundWish(String text) {
        CHECK.due("wish '" + text + "'", Check.wish(new RoundAnothers(), text), 0);
    }

    private static void lawFaults() {
        badLaw("", 0, 0);
        badLaw("want 1", 0, 0);
        badLaw("house 1 1 2 2", 0, 0);
        badLaw("far", 3, 0);
        badLaw("far x", 4, 0);
        badLaw("far 1 if", 8, 0);
        badLaw("far 1 and 1=1", 6, 0);
        badLaw("join", 4, 0);
        badLaw("join 2", 5, 1);
        badLaw("join 000001", 5, 1);
        badLaw("join long", 5, 0);
        badLaw("join 1 if 1=1", 7, 0);
        badLaw("join 1;join 1", 7, 4);
        badLaw("may 1", 5, 0);
        badLaw("may 1<", 6, 0);
        badLaw("may 1<=", 7, 0);
        badLaw("may 1<=" + " ".repeat(393), 400, 0);
        badLaw(";".repeat(400), 0, 0);
        badLaw("may 1=1" + ";".repeat(393), 8, 0);
        badLaw("may 1< =2", 7, 0);
        badLaw("may 1=<2", 6, 0);
        badLaw("may 1=>2", 6, 0);
        badLaw("may 1=2=3", 7, 0);
        badLaw("may [1=1", 8, 0);
        badLaw("may [1=1;", 8, 0);
        badLaw("may 1=1]", 7, 0);
        badLaw("may []", 5, 0);
        badLaw("may [1]=1", 6, 0);
        badLaw("may 1=[1]", 6, 0);
        badLaw("may 1=1 if 1=1", 8, 0);
        badLaw("may not", 7, 0);
        badLaw("may 1=1 and", 11, 0);
        badLaw("may 1=1 or;", 10, 0);
        badLaw("not", 3, 0);
        badLaw("notnot 1=1", 0, 0);
        soundLaw("not not 1=1");
        soundLaw("may 1<=2");
        soundLaw("may1>=2");
        soundLaw(" far1if[1<2]or 1=2and not[3>4 ] ;join 00001; not 1 = 2 ");
        soundLaw("join 0");
    }

    private static void wishFaults() {
        badWish("far 1", 0, 0);
        badWish("want", 4, 0);
        badWish("want -1", 5, 0);
        badWish("want long +", 11, 0);
        badWish("want 1 1", 7, 0);
        badWish("want 1;;want 1", 7, 0);
        badWish("want 1;", 7, 0);
        badWish("want 123456", 5, 1);
        badWish("want if", 5, 0);
        badWish("want lon", 5, 0);
        badWish("want longs", 5, 0);
        badWish("want 1 + Long", 9, 0);
        badWish("want 1 if 1=1 if 1=1", 14, 0);
        badWish("want 1 = 1", 7, 0);
        badWish("want 1 or 1=1", 7, 0);
        badWish("want [1]", 5, 0);
        badWish("want 1%2", 6, 0);
        soundWish("want 99999");
        soundWish("want long+width-height*ground/worth+wells+river+deep+like+own+year+two");
    }

    private static void depth() {
        soundLaw("may " + "[ ".repeat(10) + "1=1" + "]".repeat(10));
        badLaw("may " + "[ ".repeat(11) + "1=1" + "]".repeat(11), 24, 2);
        soundLaw("may " + "not ".repeat(10) + "1=1");
        badLaw("may " + "not ".repeat(11) + "1=1", 44, 2);
        soundLaw("not " + "not ".repeat(10) + "1=1");
        badLaw("not " + "not ".repeat(11) + "1=1", 44, 2);
        soundLaw("may " + "not[".repeat(5) + "1=1" + "]".repeat(5));
        badLaw("may " + "not[".repeat(5) + "not 1=1" + "]".repeat(5), 24, 2);
        badLaw("may " + "not[".repeat(5) + "[", 24, 2);
        soundLaw("may " + "[".repeat(10) + "1=1" + "]".repeat(10) + "and " + "not ".repeat(10) + "1=1");
        soundWish("want 1 if " + "[".repeat(9) + "1=1 and not 1=1 or not 1=1" + "]".repeat(9));
        badWish("want 1 if " + "[".repeat(10) + "1=1 or not 1=1" + "]".repeat(10), 27, 2);
    }

    private static void values() {
        String sixty = "1" + "+1".repeat(59);
        soundWish("want " + sixty);
        badWish("want " + sixty + "+1", 125, 3);
        badWish("want " + sixty + "+111111", 125, 1);
        badWish("want " + sixty + "+x", 125, 0);
        badWish("want " + sixty + ";want 1", 130, 3);
        badLaw("may " + sixty + "=1", 123, 3);
        badLaw("may " + sixty + "<=1", 123, 3);
        soundLaw("may 1" + "+1".repeat(57) + "=1");
        soundLaw("may 1" + "+1".repeat(57) + "=1;join 1");
        badLaw("may 1" + "+1".repeat(58) + "=1", 122, 3);
        soundLaw("may 1=1" + " or 1=1".repeat(19));
        badLaw("may 1=1" + " or 1=1".repeat(19) + " or 1=1", 144, 3);
    }

    private static void clauses() {
        String twelve = "join 0" + ";far 1".repeat(11);
        soundLaw(twelve);
        badLaw(twelve + ";far 1", 73, 4);
        badLaw(twelve + ";join 1", 73, 4);
        badLaw(twelve + ";fare 1", 73, 0);
        badLaw(twelve + ";", 73, 0);
        soundWish("want 1" + ";want 1".repeat(11));
        badWish("want 1" + ";want 1".repeat(12), 84, 4);
    }

    private static void numbers() {
        RoundAnothers it = new RoundAnothers();
        for (int i = 0; i < 6; i++) {
            CHECK.due("law " + i, Check.law(it, "far 1"), i);
            CHECK.due("the tape is empty", it.count(8), 0);
            CHECK.due("wish with a fault", Check.wish(it, "want"), Check.fault(4, 0));
            CHECK.due("the tape is empty", it.count(8), 0);
            CHECK.due("wish " + i, Check.wish(it, "want 1"), i);
        }
        CHECK.due("a seventh law", Check.law(it, "far 1"), -1);
        CHECK.due("the tape stays", it.count(8), 5);
        CHECK.due("a seventh wish with a fault", it.text(1), -1);
        CHECK.due("no such sort", it.text(2), -1);
        CHECK.due("no such sort", it.text(-1), -1);
        CHECK.due("the tape stays", it.count(8), 5);
        CHECK.due("laws", it.count(6), 6);
        CHECK.due("wishes", it.count(7), 6);
    }

    /** What a wish comes to for family 3's wall round family 4's (and a house). */
    private static long value(String text, int other) {
        RoundAnothers it = Check.object("house 8 9 10 11;house 11 13 12 14;worth 5 6 7 7 8;worth 9 8 9 9 10;well 6 8;well 8 9;"
                + "river 7 7 9 8", "far 1;join 1");
        Check.wish(it, text);
        it.like(3, 4, -7);
        it.build(0, 4, 7, 8, 11, 12, 0, -1);
        return it.wish(0, 3, 6, 7, 14, 16, 6, other);
    }

    private static void sums() {
        CHECK.due("2+3*4", value("want 2+3*4", -1), 14);
        CHECK.due("20/3*3", value("want 20/3*3", -1), 18);
        CHECK.due("2*3+4*5-6/2", value("want 2*3+4*5-6/2", -1), 23);
        CHECK.due("1-2-3", value("want 1-2-3", -1), -4);
        CHECK.due("7/0", value("want 7/0", -1), 0);
        CHECK.due("7/0+3", value("want 7/0+3", -1), 3);
        CHECK.due("like/2", value("want like / 2", -1), -3);
        CHECK.due("7/like", value("want 8 / like", -1), -1);
        CHECK.due("round in 64 bits", value("want 99999*99999*99999*99999", -1), 99999L * 99999 * 99999 * 99999);
        CHECK.due("several", value("want 1;want 10 if 1=2;want 100 if 1=1", -1), 101);
    }

    private static void test(String test, int want) {
        CHECK.due(test, value("want 1 if " + test, -1), want);
    }

    private static void tests() {
        test("1<2", 1);
        test("2<2", 0);
        test("2<=2", 1);
        test("3<=2", 0);
        test("2=2", 1);
        test("2=3", 0);
        test("2>=2", 1);
        test("1>=2", 0);
        test("3>2", 1);
        test("2>2", 0);
        test("1-2<0", 1);
        test("1=1 or 1=1 and 1=2", 1);
        test("[1=1 or 1=1] and 1=2", 0);
        test("1=2 and 1=1 or 1=1", 1);
        test("1=2 or 1=2 or 1=1", 1);
        test("1=1 and 1=1 and 1=2", 0);
        test("not 1=1 or 1=1", 1);
        test("not [1=1 or 1=1]", 0);
        test("not not 1=1", 1);
        test("not 1=2 and 1=1", 1);
    }

    private static void words() {
        // 8 by 9, less wall 6 (4 by 4); the cell 6 7 is worth 5, the house's worth lies in the wall
        CHECK.due("long", value("want long", -1), 34);
        CHECK.due("width", value("want width", -1), 8);
        CHECK.due("height", value("want height", -1), 9);
        CHECK.due("ground", value("want ground", -1), 56);
        CHECK.due("worth", value("want worth", -1), 60);
        CHECK.due("wells", value("want wells", -1), 1);
        CHECK.due("river", value("want river", -1), 2);
        CHECK.due("deep", value("want deep", -1), 1);
        CHECK.due("like", value("want like", -1), -7);
        CHECK.due("own", value("want own", -1), 0);
        CHECK.due("year", value("want year", -1), 0);
        CHECK.due("two", value("want two", -1), 0);
        CHECK.due("ground of two", value("want ground", 1), 55);
        CHECK.due("two of two", value("want two", 1), 1);
        CHECK.due("like of two", value("want like", 1), -7);
        CHECK.due("deep of two", value("want deep", 1), 1);
    }
}
