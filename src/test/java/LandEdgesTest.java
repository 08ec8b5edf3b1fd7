/** The document's part I, and promises 1 to 4: each sentence that names an edge, on both sides of it. */
public final class LandEdgesTest {
    private static final Check CHECK = new Check();
    private static final int CANT_STAND = 0;
    private static final int BAD_NUMBER = 1;
    private static final int TOO_MANY = 4;
    private static final int BAD_HOUSE = 5;

    public static void main(String[] args) {
        newObject();
        tapeIsFull();
        tapeEnds();
        bytes();
        fourHundredBytes();
        clauses();
        blanks();
        wide();
        worth();
        wells();
        areas();
        cells();
        severalWorths();
        beyondTheLand();
        houses();
        housesInTheLand();
        clearHouses();
        digits();
        firstFault();
        leastFault();
        anotherLand();
        landAfterLand();
        faultyLand();
        CHECK.end();
    }

    private static void bad(String text, int place, int sort) {
        CHECK.due("land '" + text + "'", Check.land(new RoundAnothers(), text), Check.fault(place, sort));
    }

    private static void sound(String text, int houses) {
        CHECK.due("land '" + text + "'", Check.land(new RoundAnothers(), text), houses);
    }

    private static void newObject() {
        CHECK.says("A LAND of 20 by 20 without HOUSES, no texts.");
        RoundAnothers it = new RoundAnothers();
        int[] counts = {20, 20, 0, 0, 0, 0, 0, 0, 0};
        for (int what = 0; what < 9; what++) {
            CHECK.due("count " + what, it.count(what), counts[what]);
        }
        CHECK.due("the last cell", it.cell(19, 19, 0), 1);
        CHECK.due("right of it", it.cell(20, 19, 0), -2);
        CHECK.due("below it", it.cell(19, 20, 0), -2);
        for (int thing = 0; thing < 30; thing++) {
            CHECK.due("thing " + thing, it.thing(thing, 0), -2);
        }
        CHECK.due("a way through all of it", it.way(0, 0, 0, 19, 19, 1), 38);
        CHECK.due("errands", it.sum(1), 0);
        CHECK.due("law 0", it.years(0, 1), -1);
        for (int k = 0; k < 4; k++) {
            CHECK.due("image " + k, it.back(k), -1);
        }
        for (int of = 0; of < 12; of++) {
            for (int to = 0; to < 12; to++) {
                CHECK.due("like " + of + " " + to, it.like(of, to, 0), of == to ? -100 : 0);
            }
        }
    }

    private static void tapeIsFull() {
        CHECK.says("how many it has; NONE, and none comes, if it would have more than 400.");
        RoundAnothers it = new RoundAnothers();
        for (int i = 1; i <= 20; i++) {
            CHECK.due("feed " + i, it.feed(0, 0, 0, 0, 0), 20 * i);
        }
        CHECK.due("feed at 400", it.feed(0, 0, 0, 0, 0), -1);
        CHECK.due("bytes", it.count(8), 400);
        for (int n = 381; n < 400; n++) {
            it = new RoundAnothers();
            Check.write(it, " ".repeat(n - 8) + "wide 7 9");
            CHECK.due("feed at " + n, it.feed(0, 0, 0, 0, 0), -1);
            CHECK.due("bytes", it.count(8), n);
            CHECK.due("what it had", it.land(), 0);
            CHECK.due("columns", it.count(0), 7);
        }
        Check.write(it, " ".repeat(380));
        // "wide 6 8", then blanks
        CHECK.due("feed at 380", it.feed(0x77696465, 0x20362038, 0x20202020, 0x20202020, 0x20202020), 400);
        CHECK.due("all of it", it.land(), 0);
        CHECK.due("columns", it.count(0), 6);
    }

    private static void tapeEnds() {
        CHECK.says("The TAPE has its first n bytes alone: n; NONE, and nothing happens, if it has not so many, or n is below 0.");
        RoundAnothers it = new RoundAnothers();
        CHECK.due("end 0 of none", it.end(0), 0);
        CHECK.due("end 1 of none", it.end(1), -1);
        CHECK.due("end -1 of none", it.end(-1), -1);
        Check.write(it, "wide 11 123         ");
        CHECK.due("end 21", it.end(21), -1);
        CHECK.due("end -1", it.end(-1), -1);
        CHECK.due("bytes", it.count(8), 20);
        CHECK.due("end 20", it.end(20), 20);
        CHECK.due("end 9", it.end(9), 9);
        CHECK.due("end 10", it.end(10), -1);
        // What the tape had behind its end is gone, too: "2" comes right behind "1".
        CHECK.due("feed", it.feed(0x32202020, 0x20202020, 0x20202020, 0x20202020, 0x20202020), 29);
        CHECK.due("land", it.land(), 0);
        CHECK.due("rows", it.count(1), 12);
    }

    private static void bytes() {
        CHECK.says("Twenty bytes come behind the TAPE, of each number the highest first");
        RoundAnothers it = new RoundAnothers();
        it.feed(0x77696465, 0x20372039, 0x20202020, 0x20202020, 0x2020203b);
        it.feed(0x77656c6c, 0x20333320, 0x33202020, 0x20202020, 0x202020ff);
        CHECK.due("byte 255 at 39", it.land(), Check.fault(39, CANT_STAND));
        it.feed(0x77696465, 0x20372039, 0x20202020, 0x20202020, 0x2020203b);
        it.feed(0x77656c6c, 0x20332033, 0x80202020, 0x20202020, 0x202020ff);
        CHECK.due("byte 128 at 28", it.land(), Check.fault(28, CANT_STAND));
        it.feed(0x77696465, 0x20372039, 0x3b77656c, 0x6c203320, 0x34202020);
        CHECK.due("land", it.land(), 0);
        CHECK.due("columns", it.count(0), 7);
        CHECK.due("rows", it.count(1), 9);
        CHECK.due("well", it.cell(3, 4, 2), 1);
    }

    private static void fourHundredBytes() {
        CHECK.says("A LAND is a text of at most 400 bytes");
        sound(" ".repeat(387) + "house 1 1 2 2", 1);
        sound("house 1 1 2 2" + " ".repeat(387), 1);
        bad(" ".repeat(388) + "house 1 1 2 ", 400, CANT_STAND);
        bad("house 1 1 2 2" + " ".repeat(386) + "x", 399, CANT_STAND);
        bad(" ".repeat(400), 400, CANT_STAND);
        bad(";".repeat(400), 0, CANT_STAND);
        bad("well 1 1" + ";".repeat(392), 9, CANT_STAND);
        bad("", 0, CANT_STAND);
    }

    private static void clauses() {
        CHECK.says("CLAUSE { ; CLAUSE }, 24 at most");
        sound("well 0 0", 0);
        sound("well 0 0" + ";well 0 0".repeat(23), 0);
        bad("well 0 0" + ";well 0 0".repeat(24), 216, TOO_MANY);
        bad("well 0 0" + ";well 0 0".repeat(23) + ";  river 0 0 1 1", 218, TOO_MANY);
        sound("well 0 0" + ";well 0 0".repeat(22) + ";house 1 1 2 2", 1);
        bad("well 0 0" + ";well 0 0".repeat(23) + ";house 1 1 2 2", 216, TOO_MANY);
        bad("well 0 0" + ";well 0 0".repeat(23) + ";wide 5 5", 216, TOO_MANY);
        bad("well 0 0" + ";well 0 0".repeat(23) + ";worth 5", 216, TOO_MANY);
        bad("well 0 0" + ";well 0 0".repeat(23) + ";", 216, CANT_STAND);
        bad(";well 0 0", 0, CANT_STAND);
        bad("well 0 0;;well 0 0", 9, CANT_STAND);
        bad("well 0 0;", 9, CANT_STAND);
        bad("well 0 0 well 0 0", 9, CANT_STAND);
    }

    private static void blanks() {
        CHECK.says("Blanks (32) stand between as one likes.");
        sound("house1 1 2 2", 1);
        sound("  house   1  1  2  2  ;  wide  9  9  ", 1);
        bad("house 1 12 2", 12, CANT_STAND);
        bad("ho use 1 1 2 2", 0, CANT_STAND);
        for (int sign : new int[] {0, 9, 10, 13, 31, 33, 160}) {
            bad("house" + (char) sign + "1 1 2 2", 5, CANT_STAND);
            bad("house 1 1 2 2" + (char) sign, 13, CANT_STAND);
        }
    }

    private static void wide() {
        CHECK.says("wide NUMBER NUMBER (5 to 40 each: columns, rows; 20 and 20 without; once at most)");
        for (int n : new int[] {5, 6, 39, 40}) {
            RoundAnothers it = Check.object("wide " + n + " 17");
            CHECK.due("columns", it.count(0), n);
            CHECK.due("rows", it.count(1), 17);
            CHECK.due("last column", it.cell(n - 1, 0, 0), 1);
            CHECK.due("beyond", it.cell(n, 0, 0), -2);
            it = Check.object("wide 17 " + n);
            CHECK.due("columns", it.count(0), 17);
            CHECK.due("rows", it.count(1), n);
            CHECK.due("last row", it.cell(0, n - 1, 0), 1);
            CHECK.due("beyond", it.cell(0, n, 0), -2);
        }
        for (int n : new int[] {0, 4, 41, 99999}) {
            bad("wide " + n + " 17", 5, BAD_NUMBER);
            bad("wide 17 " + n, 8, BAD_NUMBER);
        }
        RoundAnothers it = Check.object("wide 40 5");
        CHECK.due("another land", Check.land(it, "well 1 1"), 0);
        CHECK.due("columns without", it.count(0), 20);
        CHECK.due("rows without", it.count(1), 20);
        bad("wide 9 9;wide 9 9", 9, TOO_MANY);
        bad("wide 9 9;well 1 1;wide 9 9", 18, TOO_MANY);
    }

    private static void worth() {
        CHECK.says("worth NUMBER AREA (0 to 99)");
        for (int n : new int[] {0, 1, 98, 99}) {
            CHECK.due("worth " + n, Check.object("worth " + n + " 3 3 4 4").cell(3, 3, 0), n);
        }
        bad("worth 100 3 3 4 4", 6, BAD_NUMBER);
        bad("worth 99999 3 3 4 4", 6, BAD_NUMBER);
        bad("worth -1 3 3 4 4", 6, CANT_STAND);
    }

    private static void wells() {
        CHECK.says("well NUMBER NUMBER (0 to 39 each)");
        for (int n : new int[] {0, 39}) {
            CHECK.due("well " + n + " 3", Check.object("wide 40 40;well " + n + " 3").cell(n, 3, 2), 1);
            CHECK.due("well 3 " + n, Check.object("wide 40 40;well 3 " + n).cell(3, n, 2), 1);
        }
        bad("well 40 3", 5, BAD_NUMBER);
        bad("well 3 40", 7, BAD_NUMBER);
        sound("wide 5 5;well 39 39", 0);
    }

    private static void areas() {
        CHECK.says("AREA: NUMBERS x, y, then x, y of the opposite corner (0 to 40 each, the second ones above the first ones)");
        for (String clause : new String[] {"river ", "worth 7 ", "house "}) {
            String text = "wide 40 40;" + clause;
            int from = text.length();
            int houses = clause.equals("house ") ? 1 : 0;
            sound(text + "0 0 40 40", houses);
            sound(text + "0 0 1 1", houses);
            sound(text + "39 39 40 40", houses);
            sound(text + "5 9 6 10", houses);
            bad(text + "41 0 40 40", from, BAD_NUMBER);
            bad(text + "0 41 40 40", from + 2, BAD_NUMBER);
            bad(text + "0 0 41 40", from + 4, BAD_NUMBER);
            bad(text + "0 0 40 41", from + 7, BAD_NUMBER);
            bad(text + "5 0 5 40", from + 4, BAD_NUMBER);
            bad(text + "5 0 4 40", from + 4, BAD_NUMBER);
            bad(text + "0 9 40 9", from + 7, BAD_NUMBER);
            bad(text + "0 9 40 8", from + 7, BAD_NUMBER);
            bad(text + "0 0 0 1", from + 4, BAD_NUMBER);
            bad(text + "0 0 1 0", from + 6, BAD_NUMBER);
            bad(text + "40 0 40 1", from + 5, BAD_NUMBER);
            bad(text + "0 40 1 40", from + 7, BAD_NUMBER);
            bad(text, from, CANT_STAND);
            bad(text + "1 1 2", from + 5, CANT_STAND);
            bad(text + "1 1 2 2 2", from + 8, CANT_STAND);
        }
    }

    private static void cells() {
        CHECK.says("it has the CELLS from x to one less than the second x, likewise y");
        RoundAnothers it = Check.object("worth 7 3 4 6 9;river 3 4 6 9;house 3 4 6 9");
        for (int y = 0; y < 20; y++) {
            for (int x = 0; x < 20; x++) {
                boolean in = x >= 3 && x <= 5 && y >= 4 && y <= 8;
                CHECK.due("worth of " + x + " " + y, it.cell(x, y, 0), in ? 7 : 1);
                CHECK.due("river of " + x + " " + y, it.cell(x, y, 1), in ? 1 : 0);
                CHECK.due("well of " + x + " " + y, it.cell(x, y, 2), 0);
                CHECK.due("thing of " + x + " " + y, it.cell(x, y, 3), in ? 0 : -1);
            }
        }
        CHECK.due("cells of the house", it.thing(0, 7), 15);
        CHECK.due("worth of the house", it.thing(0, 8), 105);
    }

    private static void severalWorths() {
        CHECK.says("WORTH 1, no RIVER, no WELL but as told (of several worths the last one");
        RoundAnothers it = Check.object("worth 9 2 2 5 5;worth 0 4 4 6 6;worth 3 4 4 5 5;well 2 2;well 2 2;river 2 2 3 3;river 2 2 3 3");
        CHECK.due("told once", it.cell(3, 3, 0), 9);
        CHECK.due("told thrice", it.cell(4, 4, 0), 3);
        CHECK.due("told second", it.cell(5, 5, 0), 0);
        CHECK.due("not told", it.cell(6, 6, 0), 1);
        CHECK.due("worth stays under a well and a river", it.cell(2, 2, 0), 9);
        CHECK.due("a river told twice", it.cell(2, 2, 1), 1);
        CHECK.due("a well told twice", it.cell(2, 2, 2), 1);
    }

    private static void beyondTheLand() {
        CHECK.says("what lies beyond the LAND counts for nothing");
        RoundAnothers it = Check.object("worth 50 0 0 40 40;river 9 0 40 40;river 0 8 40 40;well 10 0;well 0 9;well 39 39;"
                + "wide 10 9;house 3 3 5 5", "far 1");
        Check.wish(it, "want worth");
        Check.wish(it, "want wells");
        Check.wish(it, "want river");
        CHECK.due("a line along the land's edge", it.can(0, 0, 0, 0, 10, 9, 0, -1), 1);
        CHECK.due("worth", it.wish(0, 0, 0, 0, 10, 9, 0, -1), 50 * 86);
        CHECK.due("wells", it.wish(1, 0, 0, 0, 10, 9, 0, -1), 0);
        CHECK.due("rivers", it.wish(2, 0, 0, 0, 10, 9, 0, -1), 18);
        CHECK.due("free", it.nests(1), 86);
        sound("wide 5 5;worth 9 30 30 40 40;river 5 5 40 40", 0);
    }

    private static void houses() {
        CHECK.says("THINGS: HOUSES 0 to 5, in the order told");
        String six = "house 10 0 11 1;house 8 0 9 1;house 6 0 7 1;house 4 0 5 1;house 2 0 3 1;house 0 0 1 1";
        RoundAnothers it = Check.object(six);
        CHECK.due("houses", it.count(2), 6);
        for (int i = 0; i < 6; i++) {
            CHECK.due("house " + i, it.thing(i, 0), 10 - 2 * i);
        }
        CHECK.due("thing 6", it.thing(6, 0), -2);
        CHECK.says("a seventh house, or a second one of which there is one at most (at its first byte)");
        bad(six + "; house 15 15 16 16", six.length() + 2, TOO_MANY);
        bad(six + ";house", six.length() + 1, TOO_MANY);
        bad(six + ";houses 15 15 16 16", six.length() + 1, CANT_STAND);
        sound(six + ";well 1 1", 6);
    }

    private static void housesInTheLand() {
        CHECK.says("which lie in the LAND as wide as it is told in the end");
        sound("house 0 0 20 20", 1);
        bad("house 0 0 21 20", 15, BAD_HOUSE);
        bad("house 0 0 20 21", 15, BAD_HOUSE);
        sound("house 0 0 21 20;wide 21 20", 1);
        sound("house 0 0 20 21;wide 20 21", 1);
        bad("house 0 0 9 9;wide 8 9", 22, BAD_HOUSE);
        bad("house 0 0 9 9;wide 9 8", 22, BAD_HOUSE);
        sound("house 0 0 9 9;wide 9 9", 1);
        CHECK.says("or (at the end) one that doesn't lie in the LAND");
        bad("house 0 0 21 20 ;  well 1 1  ", 29, BAD_HOUSE);
        bad("house 1 1 2 2;house 19 19 21 21;house 5 5 6 6", 45, BAD_HOUSE);
        bad("house 0 0 21 20;", 16, CANT_STAND);
    }

    /** A house from 8 to 11, and one beside it on each side, at 0 and at 1 from it. */
    private static void clearHouses() {
        CHECK.says("Two rectangles are CLEAR of one another if one ends at least 1 ahead of the other (in x, or in y).");
        String first = "house 8 8 11 11;house ";
        int place = first.length();
        sound(first + "12 8 13 11", 2);
        bad(first + "11 8 13 11", place, BAD_HOUSE);
        sound(first + "5 8 7 11", 2);
        bad(first + "5 8 8 11", place, BAD_HOUSE);
        sound(first + "8 12 11 13", 2);
        bad(first + "8 11 11 13", place, BAD_HOUSE);
        sound(first + "8 5 11 7", 2);
        bad(first + "8 5 11 8", place, BAD_HOUSE);
        bad(first + "11 11 13 13", place, BAD_HOUSE);
        bad(first + "5 5 8 8", place, BAD_HOUSE);
        sound(first + "12 11 13 13", 2);
        sound(first + "11 12 13 13", 2);
        sound(first + "5 5 7 8", 2);
        sound(first + "5 5 8 7", 2);
        bad(first + "9 9 10 10", place, BAD_HOUSE);
        bad(first + "0 9 20 10", place, BAD_HOUSE);
        bad(first + "8 8 11 11", place, BAD_HOUSE);
        CHECK.says("5 a HOUSE that is not CLEAR of one ahead of it (at its first NUMBER)");
        bad("house 1 1 2 2;house 8 8 11 11;house 5 5 6 6;house   11 8 13 11;x", 52, BAD_HOUSE);
        bad("house 1 1 2 2;house 4 4 5 5;house   2 1 3 2", 36, BAD_HOUSE);
    }

    private static void digits() {
        CHECK.says("NUMBER (1 to 5 digits, as far as digits go on)");
        sound("wide 00007 00009", 0);
        bad("wide 000007 9", 5, BAD_NUMBER);
        bad("wide 7 000009", 7, BAD_NUMBER);
        bad("worth 000007 1 1 2 2", 6, BAD_NUMBER);
        bad("well 000001 1", 5, BAD_NUMBER);
        bad("well 1 000001", 7, BAD_NUMBER);
        bad("river 000001 1 2 2", 6, BAD_NUMBER);
        bad("river 1 000001 2 2", 8, BAD_NUMBER);
        bad("river 1 1 000002 2", 10, BAD_NUMBER);
        bad("river 1 1 2 000002", 12, BAD_NUMBER);
        sound("worth 00007 00001 00001 00002 00002;well 00001 00001;river 00001 00001 00002 00002", 0);
        bad("wide 99999999999999999999 9", 5, BAD_NUMBER);
        bad("wide 4294967303 9", 5, BAD_NUMBER);
        CHECK.due("as far as digits go on", Check.object("wide 12 13").count(0), 12);
    }

    private static void firstFault() {
        CHECK.says("FAULTS, the first along the text, 1 + 8 * its place and: 0 a byte or WORD that can't stand there, or the end "
                + "(behind the last byte)");
        bad("wide 4 41;house", 5, BAD_NUMBER);
        bad("house 1 1 2 2;house 1 1 2 2;house 41", 20, BAD_HOUSE);
        bad("house 1 1 2 2;house 1 1 2 41;house 1 1 2 2", 26, BAD_NUMBER);
        bad("house 1 1 30 30;wide 4 4", 21, BAD_NUMBER);
        bad("wides 5 5", 0, CANT_STAND);
        bad("wid 5 5", 0, CANT_STAND);
        bad("wells 1 1", 0, CANT_STAND);
        bad("far 1", 0, CANT_STAND);
        bad("Well 1 1", 0, CANT_STAND);
        bad("wEll 1 1", 0, CANT_STAND);
        bad("well 1 x", 7, CANT_STAND);
        bad("well 1 [", 7, CANT_STAND);
        bad("well 1", 6, CANT_STAND);
        bad("well 1   ", 9, CANT_STAND);
        bad("well", 4, CANT_STAND);
        bad("5", 0, CANT_STAND);
    }

    private static void leastFault() {
        CHECK.says("Of one place the least.");
        // A number that is too long where none can stand, and a clause too many that is none.
        bad("well 1 1 123456", 9, CANT_STAND);
        bad("123456", 0, CANT_STAND);
        bad("wide 9 9;widen 9 9", 9, CANT_STAND);
        bad("well 0 0" + ";well 0 0".repeat(23) + ";want 1", 216, CANT_STAND);
        bad("house 9 9 30 30;well 1", 22, CANT_STAND);
    }

    private static void anotherLand() {
        CHECK.says("The TAPE, which is empty then, is the LAND in place of the one there was (no WALLS, ERRANDS; YEAR 0; LIKE, x stay)");
        RoundAnothers it = Check.full("far 1");
        it.image(2);
        it.like(3, 4, -9);
        it.errand(5, 0, 0, 0, 39, 39);
        it.years(0, 3);
        it.seed(4321);
        CHECK.due("houses", Check.land(it, "house 3 3 4 4"), 1);
        CHECK.due("bytes", it.count(8), 0);
        int[] counts = {20, 20, 1, 0, 0, 4321, 1, 0, 0};
        for (int what = 0; what < 9; what++) {
            CHECK.due("count " + what, it.count(what), counts[what]);
        }
        for (int thing = 1; thing < 30; thing++) {
            CHECK.due("thing " + thing, it.thing(thing, 0), -2);
        }
        CHECK.due("house 0 is outermost", it.thing(0, 5), -1);
        CHECK.due("errands", it.sum(1), 0);
        CHECK.due("like", it.like(3, 4, 0), -9);
        CHECK.due("a wall", it.build(0, 0, 2, 2, 5, 5, 0, -1), 6);
        CHECK.due("an image of the land before", it.back(2), 24);
        CHECK.due("houses", it.count(2), 6);
    }

    /** Nothing of one land is left in the next but one. */
    private static void landAfterLand() {
        CHECK.says("The TAPE, which is empty then, is the LAND in place of the one there was (no WALLS, ERRANDS; YEAR 0; LIKE, x stay)");
        for (int next = 0; next < 2; next++) {
            RoundAnothers it = Check.object("wide 40 30;house 30 20 33 23;house 36 25 38 28;worth 9 0 0 40 40;river 3 3 9 9;well 2 2",
                    "far 1");
            it.build(0, 0, 29, 19, 34, 24, 0, -1);
            it.years(0, 3);
            for (int k = 0; k < 6; k++) {
                it.errand(k, 0, 0, 0, 1, 1);
            }
            CHECK.due("another", Check.land(it, "wide 12 12;house 5 5 6 6"), 1);
            CHECK.due("a third one", Check.land(it, next == 0 ? "well 1 1" : "house 15 15 16 16"), next);
            int[] counts = {20, 20, next, 0, 0};
            for (int what = 0; what < 5; what++) {
                CHECK.due("count " + what, it.count(what), counts[what]);
            }
            for (int thing = next; thing < 30; thing++) {
                CHECK.due("thing " + thing, it.thing(thing, 0), -2);
            }
            for (int cell = 0; cell < 400; cell++) {
                CHECK.due("worth", it.cell(cell % 20, cell / 20, 0), 1);
                CHECK.due("river", it.cell(cell % 20, cell / 20, 1), 0);
                CHECK.due("well", it.cell(cell % 20, cell / 20, 2), next == 0 && cell == 21 ? 1 : 0);
            }
            CHECK.due("errands", it.sum(1), 0);
            CHECK.due("nests", it.nests(0), next);
            CHECK.due("free", it.nests(1), 400 - next);
        }
    }

    private static void faultyLand() {
        CHECK.says("-2 - its FAULT, and all stays.");
        String[] faulty = {"", "x", "wide 9 9;river 0 0 40 40;worth 9 0 0 40 40;house 1 1 2 2;", "house 0 0 21 21",
            "wide 4 4", "house 1 1 2 2;house 1 1 2 2", "wide 9 9;wide 9 9"};
        int[] places = {0, 0, 57, 15, 5, 20, 9};
        int[] sorts = {0, 0, 0, 5, 1, 5, 4};
        for (int i = 0; i < faulty.length; i++) {
            RoundAnothers it = Check.object("wide 30 30;house 8 8 10 10;house 20 8 22 10;river 0 25 30 26", "far 1");
            it.build(0, 3, 7, 7, 11, 11, 0, -1);
            it.gate(6, 0, 0, 5);
            it.errand(0, 1, 0, 0, 8, 8);
            it.years(0, 4);
            long before = Check.print(it);
            CHECK.due("land '" + faulty[i] + "'", Check.land(it, faulty[i]), Check.fault(places[i], sorts[i]));
            CHECK.due("all stays", Check.print(it), before);
        }
    }
}
