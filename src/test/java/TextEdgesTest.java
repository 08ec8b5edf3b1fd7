/** The language of the document's part II, and promise 5: each sentence that names an edge, on both sides of it. */
public final class TextEdgesTest {
    private static final Check CHECK = new Check();
    private static final int CANT_STAND = 0;
    private static final int BAD_NUMBER = 1;
    private static final int TOO_DEEP = 2;
    private static final int TOO_MANY_VALUES = 3;
    private static final int TOO_MANY = 4;
    private static final String[] WORDS = {"long", "width", "height", "ground", "worth", "wells", "river", "deep", "like",
        "own", "year", "two"};

    public static void main(String[] args) {
        sixTexts();
        tapeIsEmpty();
        fourHundredBytes();
        clauses();
        lawClauses();
        wishClauses();
        join();
        numbers();
        words();
        signs();
        partsAndFacts();
        sums();
        rounds();
        blanks();
        depth();
        values();
        firstFault();
        leastFault();
        CHECK.end();
    }

    private static void badLaw(String text, int place, int sort) {
        CHECK.due("law '" + text + "'", Check.law(new RoundAnothers(), text), Check.fault(place, sort));
    }

    private static void badWish(String text, int place, int sort) {
        CHECK.due("wish '" + text + "'", Check.wish(new RoundAnothers(), text), Check.fault(place, sort));
    }

    private static void law(String text) {
        CHECK.due("law '" + text + "'", Check.law(new RoundAnothers(), text), 0);
    }

    private static void wish(String text) {
        CHECK.due("wish '" + text + "'", Check.wish(new RoundAnothers(), text), 0);
    }

    /** What a sum comes to, where like is -1, deep is 1 and own is 0. */
    private static long value(String sum) {
        RoundAnothers it = Check.object("house 8 8 10 10", "far 1");
        CHECK.due("wish '" + sum + "'", Check.wish(it, "want " + sum), 0);
        it.like(3, 4, -1);
        it.build(0, 4, 7, 7, 11, 11, 0, -1);
        return it.wish(0, 3, 6, 6, 12, 12, 6, -1);
    }

    private static void comes(String sum, long want) {
        CHECK.due(sum, value(sum), want);
    }

    private static void holds(String test, boolean want) {
        CHECK.due(test, value("1 if " + test), want ? 1 : 0);
    }

    private static void sixTexts() {
        CHECK.says("NONE, and nothing happens: there are 6, or no such sort.");
        RoundAnothers it = new RoundAnothers();
        for (int i = 0; i < 6; i++) {
            CHECK.due("law", Check.law(it, "far 1"), i);
            CHECK.due("laws", it.count(6), i + 1);
            CHECK.due("wishes", it.count(7), 0);
        }
        CHECK.due("a seventh law", Check.law(it, "far 1"), -1);
        CHECK.due("bytes", it.count(8), 5);
        CHECK.due("a seventh law with a fault", Check.law(it, "far"), -1);
        CHECK.due("bytes", it.count(8), 3);
        for (int i = 0; i < 6; i++) {
            CHECK.due("wish", Check.wish(it, "want 1"), i);
            CHECK.due("wishes", it.count(7), i + 1);
        }
        CHECK.due("a seventh wish", Check.wish(it, "want 1"), -1);
        CHECK.due("bytes", it.count(8), 6);
        CHECK.due("laws", it.count(6), 6);
        it = new RoundAnothers();
        Check.write(it, "want 3");
        for (int sort : new int[] {-1, 2, 6, Integer.MIN_VALUE, Integer.MAX_VALUE}) {
            CHECK.due("sort " + sort, it.text(sort), -1);
        }
        CHECK.due("bytes", it.count(8), 6);
        CHECK.due("what the tape has", it.text(1), 0);
        CHECK.says("there are 6");
        it = Check.object("house 8 8 10 10", "far 1", "far 1", "far 1", "far 1", "far 1", "far 3");
        CHECK.due("law 5", it.can(5, 0, 5, 5, 13, 13, 0, -1), 1);
        CHECK.due("law 5", it.can(5, 0, 6, 5, 13, 13, 0, -1), 0);
        CHECK.due("law 6", it.can(6, 0, 5, 5, 13, 13, 0, -1), -1);
        for (int i = 0; i < 6; i++) {
            Check.wish(it, "want 10 + " + i);
        }
        CHECK.due("wish 5", it.wish(5, 0, 5, 5, 13, 13, 0, -1), 15);
        CHECK.due("wish 6", it.wish(6, 0, 5, 5, 13, 13, 0, -1), 0);
        // Six texts as long as can be.
        it = Check.object("house 8 8 11 11");
        for (int i = 0; i < 6; i++) {
            Check.law(it, "far 1" + "+1".repeat(54) + "-" + (53 - i) + " if 1=1");
            Check.wish(it, "want " + i + "+1".repeat(59));
        }
        for (int i = 0; i < 6; i++) {
            CHECK.due("law " + i, it.can(i, 0, 6 - i, 6 - i, 13 + i, 13 + i, 0, -1), 1);
            CHECK.due("law " + i, it.can(i, 0, 7 - i, 6 - i, 13 + i, 13 + i, 0, -1), 0);
            CHECK.due("wish " + i, it.wish(i, 0, 5, 5, 14, 14, 0, -1), 59 + i);
        }
    }

    private static void tapeIsEmpty() {
        CHECK.says("The TAPE, which is empty then, is a text, sort 0: a LAW, 1: a WISH: its number; -2 - its FAULT");
        RoundAnothers it = new RoundAnothers();
        CHECK.due("a law with a fault", Check.law(it, "want 1"), Check.fault(0, CANT_STAND));
        CHECK.due("bytes", it.count(8), 0);
        CHECK.due("laws", it.count(6), 0);
        CHECK.due("of an empty tape", it.text(0), Check.fault(0, CANT_STAND));
        CHECK.due("a law", Check.law(it, "far 1"), 0);
        CHECK.due("bytes", it.count(8), 0);
        CHECK.due("a wish with a fault", Check.wish(it, "far 1"), Check.fault(0, CANT_STAND));
        CHECK.due("bytes", it.count(8), 0);
        CHECK.due("of an empty tape", it.text(1), Check.fault(0, CANT_STAND));
        CHECK.due("a wish", Check.wish(it, "want 1"), 0);
        CHECK.due("bytes", it.count(8), 0);
        CHECK.due("behind an empty tape", it.feed(0, 0, 0, 0, 0), 20);
    }

    private static void fourHundredBytes() {
        CHECK.says("texts likewise, 12 CLAUSES at most");
        law(" ".repeat(395) + "far 1");
        law("far 1" + " ".repeat(395));
        badLaw(" ".repeat(400), 400, CANT_STAND);
        badLaw(" ".repeat(397) + "far", 400, CANT_STAND);
        badLaw("far 1" + " ".repeat(394) + "1", 399, CANT_STAND);
        wish("want 1" + " + 2 * 3".repeat(20) + " ".repeat(234));
        badLaw("may " + "[".repeat(10) + " ".repeat(385) + "[", 399, TOO_DEEP);
        badLaw("may 1<" + " ".repeat(394), 400, CANT_STAND);
        badLaw("may 1" + " ".repeat(394) + "<", 400, CANT_STAND);
        badLaw("may 1" + " ".repeat(393) + "<=", 400, CANT_STAND);
        badLaw(";".repeat(400), 0, CANT_STAND);
        badWish(";".repeat(400), 0, CANT_STAND);
        badWish("want 1" + "+".repeat(394), 7, CANT_STAND);
    }

    private static void clauses() {
        CHECK.says("texts likewise, 12 CLAUSES at most");
        for (String clause : new String[] {"far 1", "may 1=1", "not 1=2", "far 1 if 1=1"}) {
            int size = clause.length() + 1;
            law(clause + (";" + clause).repeat(11));
            badLaw(clause + (";" + clause).repeat(12), 12 * size, TOO_MANY);
            badLaw(clause + (";" + clause).repeat(11) + ";", 12 * size, CANT_STAND);
            badLaw(clause + (";" + clause).repeat(11) + "; join 1", 12 * size + 1, TOO_MANY);
            law(clause + (";" + clause).repeat(10) + ";join 1");
        }
        wish("want 1" + ";want 1".repeat(11));
        badWish("want 1" + ";want 1".repeat(12), 84, TOO_MANY);
        badWish("want 1" + ";want 1".repeat(11) + "; ", 85, CANT_STAND);
        // The twelfth clause counts.
        comes("1" + ";want 1".repeat(10) + ";want 1000", 1011);
        badLaw(";far 1", 0, CANT_STAND);
        badLaw("far 1;;far 1", 6, CANT_STAND);
        badLaw("far 1;", 6, CANT_STAND);
        badLaw("far 1 far 1", 6, CANT_STAND);
    }

    private static void lawClauses() {
        CHECK.says("Of a LAW: far SUM [ if TEST ] | may TEST | not TEST | join NUMBER");
        law("far 1");
        law("far 1 if 1=1");
        law("may 1=1");
        law("not 1=1");
        badLaw("want 1", 0, CANT_STAND);
        badLaw("if 1=1", 0, CANT_STAND);
        badLaw("wide 5 5", 0, CANT_STAND);
        badLaw("long", 0, CANT_STAND);
        badLaw("1=1", 0, CANT_STAND);
        badLaw("[1=1]", 0, CANT_STAND);
        badLaw("far", 3, CANT_STAND);
        badLaw("far if 1=1", 4, CANT_STAND);
        badLaw("far 1 if", 8, CANT_STAND);
        badLaw("far 1 if 1", 10, CANT_STAND);
        badLaw("far 1=1", 5, CANT_STAND);
        badLaw("far 1 [if 1=1]", 6, CANT_STAND);
        badLaw("may", 3, CANT_STAND);
        badLaw("may 1", 5, CANT_STAND);
        badLaw("may 1=1 if 1=1", 8, CANT_STAND);
        badLaw("not", 3, CANT_STAND);
        badLaw("not 1", 5, CANT_STAND);
        badLaw("not 1=1 if 1=1", 8, CANT_STAND);
    }

    private static void wishClauses() {
        CHECK.says("Of a WISH: want SUM [ if TEST ].");
        wish("want 1");
        wish("want 1 if 1=1");
        for (String clause : new String[] {"far 1", "may 1=1", "not 1=1", "join 1", "wants 1", "wan 1"}) {
            badWish(clause, 0, CANT_STAND);
        }
        badWish("want", 4, CANT_STAND);
        badWish("want 1 if", 9, CANT_STAND);
        badWish("want 1 if 1=1 if 1=1", 14, CANT_STAND);
        badWish("want 1=1", 6, CANT_STAND);
    }

    private static void join() {
        CHECK.says("join NUMBER (0 to 1; once at most; 0 without)");
        RoundAnothers it = Check.object("house 5 5 7 7;house 10 5 12 7", "join 1", "join 0", "far 1", "join 00001;far 1");
        int[] want = {1, 0, 0, 1};
        for (int law = 0; law < 4; law++) {
            CHECK.due("two by law " + law, it.can(law, 0, 4, 4, 13, 8, 0, 1), want[law]);
        }
        badLaw("join 2", 5, BAD_NUMBER);
        badLaw("join 99999", 5, BAD_NUMBER);
        badLaw("join 000001", 5, BAD_NUMBER);
        badLaw("join", 4, CANT_STAND);
        badLaw("join -1", 5, CANT_STAND);
        badLaw("join two", 5, CANT_STAND);
        badLaw("join 1+0", 6, CANT_STAND);
        badLaw("join 1 if 1=1", 7, CANT_STAND);
        badLaw("join 0;join 0", 7, TOO_MANY);
        badLaw("join 1;far 1; join 1", 14, TOO_MANY);
    }

    private static void numbers() {
        CHECK.says("VALUE: NUMBER (1 to 5 digits, as far as digits go on) | WORD.");
        comes("0", 0);
        comes("99999", 99999);
        comes("00001", 1);
        badWish("want 000001", 5, BAD_NUMBER);
        badWish("want 100000", 5, BAD_NUMBER);
        badWish("want 1+100000", 7, BAD_NUMBER);
        badLaw("far 100000", 4, BAD_NUMBER);
        badLaw("may 1=100000", 6, BAD_NUMBER);
        badWish("want 4294967297", 5, BAD_NUMBER);
        badWish("want 1 2", 7, CANT_STAND);
        badWish("want 1.5", 6, CANT_STAND);
        badWish("want +1", 5, CANT_STAND);
        badWish("want -1", 5, CANT_STAND);
    }

    private static void words() {
        CHECK.says("WORDS (small letters, as far as these go on) of a WALL as it would be");
        // A wall of 6 by 6 round one of 4 by 4.
        long[] want = {24, 6, 6, 20, 20, 0, 0, 1, -1, 0, 0, 0};
        for (int i = 0; i < WORDS.length; i++) {
            comes(WORDS[i], want[i]);
            for (String letter : new String[] {"a", "s", "z"}) {
                badWish("want " + WORDS[i] + letter, 5, CANT_STAND);
                badWish("want " + letter + WORDS[i], 5, CANT_STAND);
            }
            badWish("want " + WORDS[i].substring(1), 5, CANT_STAND);
            badWish("want " + WORDS[i].substring(0, WORDS[i].length() - 1), 5, CANT_STAND);
            badWish("want " + WORDS[i] + WORDS[i], 5, CANT_STAND);
            badWish("want " + WORDS[i].toUpperCase(), 5, CANT_STAND);
            comes(WORDS[i] + "+0", want[i]);
        }
        for (String word : new String[] {"far", "may", "not", "join", "want", "if", "and", "or", "wide", "well", "house"}) {
            badWish("want " + word, 5, CANT_STAND);
        }
        badWish("want long1", 9, CANT_STAND);
        wish("want1if long=1");
        badWish("want 1if1=1or1=1orr", 16, CANT_STAND);
    }

    private static void signs() {
        CHECK.says("SUM SIGN SUM, SIGN one of < <= = >= >.");
        for (int a = 4; a <= 6; a++) {
            holds(a + "<5", a < 5);
            holds(a + "<=5", a <= 5);
            holds(a + "=5", a == 5);
            holds(a + ">=5", a >= 5);
            holds(a + ">5", a > 5);
            holds("0-" + a + "<0-5", a > 5);
            String[] facts = {a + "<5", a + "<=5", a + "=5", a + ">=5", a + ">5"};
            boolean[] want = {a < 5, a <= 5, a == 5, a >= 5, a > 5};
            for (int i = 0; i < 5; i++) {
                holds("not " + facts[i], !want[i]);
                holds("not not " + facts[i], want[i]);
                holds(facts[i] + " and 1=1", want[i]);
                holds(facts[i] + " or 1=2", want[i]);
            }
        }
        for (String sign : new String[] {"<>", "><", "==", "=<", "=>", "!=", "<<", "< =", "> ="}) {
            int place = sign.startsWith("!") ? 5 : sign.contains(" ") ? 7 : 6;
            badLaw("may 1" + sign + "1", place, CANT_STAND);
        }
        badLaw("may 1=1=1", 7, CANT_STAND);
        badLaw("may 1<2<3", 7, CANT_STAND);
        badLaw("may <1", 4, CANT_STAND);
        badLaw("may 1<", 6, CANT_STAND);
        badLaw("may 1<=", 7, CANT_STAND);
        badLaw("may 1>=", 7, CANT_STAND);
        // What the tape had behind its end is no part of a sign.
        for (String sign : new String[] {"<", ">"}) {
            RoundAnothers it = new RoundAnothers();
            Check.write(it, "may 1" + sign + "=2");
            it.end(6);
            CHECK.due("a sign cut off", it.text(0), Check.fault(6, CANT_STAND));
        }
    }

    private static void partsAndFacts() {
        CHECK.says("TEST: PART { or PART }. PART: FACT { and FACT }. FACT: not FACT | [ TEST ] (these brackets are signs)");
        for (int bits = 0; bits < 8; bits++) {
            boolean a = (bits & 1) != 0;
            boolean b = (bits & 2) != 0;
            boolean c = (bits & 4) != 0;
            String x = a ? "1=1" : "1=2";
            String y = b ? "1=1" : "1=2";
            String z = c ? "1=1" : "1=2";
            holds(x + " or " + y + " or " + z, a || b || c);
            holds(x + " and " + y + " and " + z, a && b && c);
            holds(x + " or " + y + " and " + z, a || b && c);
            holds(x + " and " + y + " or " + z, a && b || c);
            holds("[" + x + " or " + y + "] and " + z, (a || b) && c);
            holds(x + " and [" + y + " or " + z + "]", a && (b || c));
            holds("not " + x + " and " + y + " or " + z, !a && b || c);
            holds("not [" + x + " or " + y + "] and not not " + z, !(a || b) && c);
        }
        badLaw("may []", 5, CANT_STAND);
        badLaw("may [1=1", 8, CANT_STAND);
        badLaw("may 1=1]", 7, CANT_STAND);
        badLaw("may [[1=1]", 10, CANT_STAND);
        badLaw("may [1=1]]", 9, CANT_STAND);
        badLaw("may [1]=1", 6, CANT_STAND);
        badLaw("may [1=1]=1", 9, CANT_STAND);
        badLaw("may 1=[1]", 6, CANT_STAND);
        badLaw("may (1=1)", 4, CANT_STAND);
        badLaw("may not", 7, CANT_STAND);
        badLaw("may not or", 8, CANT_STAND);
        badLaw("may and 1=1", 4, CANT_STAND);
        badLaw("may 1=1 and", 11, CANT_STAND);
        badLaw("may 1=1 or", 10, CANT_STAND);
        badLaw("may 1=1 and or 1=1", 12, CANT_STAND);
        badLaw("may 1=1 not 1=1", 8, CANT_STAND);
        badLaw("may 1=1 1=1", 8, CANT_STAND);
    }

    private static void sums() {
        CHECK.says("SUM: TERM { (+ or -) TERM }. TERM: VALUE { (* or /) VALUE }.");
        comes("2+3*4", 14);
        comes("2*3+4", 10);
        comes("20-3-4", 13);
        comes("20-3+4", 21);
        comes("20/3*3", 18);
        comes("2*7/3", 4);
        comes("1-2*3-4/2", -7);
        badWish("want 1+", 7, CANT_STAND);
        badWish("want 1*", 7, CANT_STAND);
        badWish("want 1+-1", 7, CANT_STAND);
        badWish("want 1**1", 7, CANT_STAND);
        badWish("want *1", 5, CANT_STAND);
        badWish("want 1%1", 6, CANT_STAND);
        CHECK.says("/ is towards 0, 0 by 0");
        comes("7/2", 3);
        comes("7*like/2", -3);
        comes("7/like", -7);
        comes("1/2", 0);
        comes("like/2", 0);
        comes("7/0", 0);
        comes("0/0", 0);
        comes("7/0*5+3", 3);
        comes("7/own", 0);
        holds("7/0=0", true);
    }

    /** 32768 four times, and 8: 2 to the 63rd, which is the least number there is. */
    private static void rounds() {
        CHECK.says("all goes round in 64 bits");
        String least = "32768*32768*32768*32768*8";
        comes(least, Long.MIN_VALUE);
        comes(least + "-1", Long.MAX_VALUE);
        comes(least + "-1+1", Long.MIN_VALUE);
        comes(least + "*2", 0);
        comes(least + "/like", Long.MIN_VALUE);
        comes("0-" + least, Long.MIN_VALUE);
        comes("99999*99999*99999*99999", 99999L * 99999 * 99999 * 99999);
        holds(least + "<0", true);
        holds(least + "-1>0", true);
        CHECK.says("WISH: the SUMS of all want CLAUSES without a TEST, or whose TEST holds, together (64 bits).");
        comes(least + "-1;want 2", Long.MIN_VALUE + 1);
        comes("1;want 10 if 1=2;want 100 if 1=1;want 1000", 1101);
        comes("5 if 1=2", 0);
    }

    private static void blanks() {
        CHECK.says("Blanks (32) stand between as one likes.");
        law("far1if1<2and[3>=4or not5=6];join1;not7=8");
        law("  far  1  if  1  <  2  and  [  3  >=  4  or  not  5  =  6  ]  ;  join  1  ;  not  7  =  8  ");
        badLaw("fa r 1", 0, CANT_STAND);
        badLaw("far 1 i f 1=1", 6, CANT_STAND);
        badLaw("notnot 1=1", 0, CANT_STAND);
        badLaw("may notnot 1=1", 4, CANT_STAND);
        badLaw("may 1=1and1=1andnot 1=1", 13, CANT_STAND);
        for (int sign : new int[] {0, 9, 10, 13, 31, 160}) {
            badLaw("far 1" + (char) sign, 5, CANT_STAND);
            badLaw("far" + (char) sign + "1", 3, CANT_STAND);
        }
    }

    private static void depth() {
        CHECK.says("[ and not lie within one another 10 deep at most");
        law("may " + "[".repeat(10) + "1=1" + "]".repeat(10));
        badLaw("may " + "[".repeat(11) + "1=1" + "]".repeat(11), 14, TOO_DEEP);
        law("may " + "not ".repeat(10) + "1=1");
        badLaw("may " + "not ".repeat(11) + "1=1", 44, TOO_DEEP);
        law("may " + "not [".repeat(5) + "1=1" + "]".repeat(5));
        badLaw("may " + "not [".repeat(5) + "not 1=1" + "]".repeat(5), 29, TOO_DEEP);
        badLaw("may " + "not [".repeat(5) + "[1=1" + "]".repeat(6), 29, TOO_DEEP);
        law("may " + "[not ".repeat(5) + "1=1" + "]".repeat(5));
        // What is closed no longer counts.
        law("may " + "[".repeat(10) + "1=1" + "]".repeat(10) + " or " + "[".repeat(10) + "1=1" + "]".repeat(10));
        law("may " + "[".repeat(9) + "[1=1] and not 1=1 or [1=1]" + "]".repeat(9));
        badLaw("may " + "[".repeat(9) + "[1=1] and not [1=1]" + "]".repeat(9), 27, TOO_DEEP);
        law("may 1=1" + " and not 1=1".repeat(12));
        wish("want 1 if " + "[".repeat(10) + "1=1" + "]".repeat(10));
        badWish("want 1 if " + "[".repeat(11) + "1=1" + "]".repeat(11), 20, TOO_DEEP);
        law("far 1 if " + "[".repeat(10) + "1=1" + "]".repeat(10));
        badLaw("far 1 if " + "[".repeat(11) + "1=1" + "]".repeat(11), 19, TOO_DEEP);
        CHECK.says("(the word not that begins a CLAUSE is none of these)");
        law("not " + "not ".repeat(10) + "1=1");
        badLaw("not " + "not ".repeat(11) + "1=1", 44, TOO_DEEP);
        law("not " + "[".repeat(10) + "1=1" + "]".repeat(10));
        badLaw("not " + "[".repeat(11) + "1=1" + "]".repeat(11), 14, TOO_DEEP);
        law("far 1;not " + "not ".repeat(10) + "1=1");
        CHECK.says("2 too deep (at the sign that opens, or the word not)");
        badLaw("may " + "[".repeat(10) + "   not 1=1", 17, TOO_DEEP);
        badLaw("may " + "[".repeat(10) + "   [", 17, TOO_DEEP);
        badLaw("may " + "[".repeat(10) + "1=1 or  not 1=1", 22, TOO_DEEP);
    }

    private static void values() {
        CHECK.says("at most 60 VALUES and FACTS made of a SIGN, together");
        String sixty = "1" + "+1".repeat(59);
        comes(sixty, 60);
        wish("want " + "1;want ".repeat(11) + "1" + "+1".repeat(48));
        badWish("want " + "1;want ".repeat(11) + "1" + "+1".repeat(49), 180, TOO_MANY_VALUES);
        law("may 1" + "+1".repeat(57) + "=1");
        law("may 1=1" + " or 1=1".repeat(19));
        law("far 1" + "+1".repeat(56) + " if 1=1");
        law("may 1" + "+1".repeat(57) + "=1;join 1");
        CHECK.says("3 one VALUE or FACT too many (at its first byte; of a FACT at its SIGN)");
        badWish("want " + sixty + "+ long", 126, TOO_MANY_VALUES);
        badWish("want " + sixty + "+ 99999", 126, TOO_MANY_VALUES);
        badLaw("may " + sixty + " <= 1", 124, TOO_MANY_VALUES);
        badLaw("may 1" + "+1".repeat(58) + "= 1", 123, TOO_MANY_VALUES);
        badLaw("may 1=1" + " or 1=1".repeat(19) + " or  1=1", 145, TOO_MANY_VALUES);
        badLaw("far 1" + "+1".repeat(57) + " if 1=1", 125, TOO_MANY_VALUES);
        badLaw("far 1" + "+1".repeat(58) + " if 1=1", 126, TOO_MANY_VALUES);
        badLaw("far 1" + "+1".repeat(59) + " if 1=1", 127, TOO_MANY_VALUES);
        badLaw("may not[1" + "+1".repeat(58) + "= 1]", 127, TOO_MANY_VALUES);
    }

    private static void firstFault() {
        CHECK.says("FAULTS, the first along the text");
        badLaw("far 100000;join 2", 4, BAD_NUMBER);
        badLaw("join 2;join 2", 5, BAD_NUMBER);
        badLaw("may " + "[".repeat(11) + "100000", 14, TOO_DEEP);
        badWish("want 1" + "+1".repeat(60) + "+100000", 125, TOO_MANY_VALUES);
        badLaw("far x;far 100000", 4, CANT_STAND);
        badLaw("far 1" + ";far 1".repeat(12) + "+x", 72, TOO_MANY);
        badLaw((char) 255 + "far 1", 0, CANT_STAND);
        badLaw("may 1" + (char) 189 + "1", 5, CANT_STAND);
    }

    private static void leastFault() {
        CHECK.says("Of one place the least.");
        String sixty = "1" + "+1".repeat(59);
        badWish("want " + sixty + "+100000", 125, BAD_NUMBER);
        badWish("want " + sixty + "+x", 125, CANT_STAND);
        badWish("want " + sixty + "+", 125, CANT_STAND);
        badLaw("may " + sixty + "!1", 123, CANT_STAND);
        badLaw("far 1" + ";far 1".repeat(11) + ";want 1", 72, CANT_STAND);
        badLaw("join 1;joins 1", 7, CANT_STAND);
        badLaw("may " + "[".repeat(10) + "]", 14, CANT_STAND);
        badWish("want 1 100000", 7, CANT_STAND);
        badLaw("100000", 0, CANT_STAND);
    }
}
