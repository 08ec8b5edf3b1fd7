/** Promises 4 and 14: land and its faults, cell. */
public final class LandTest {
    private static final Check CHECK = new Check();

    public static void main(String[] args) {
        faults();
        soundLands();
        clauses();
        cells();
        inPlaceOfAnother();
        CHECK.end();
    }

    private static void bad(String text, int place, int sort) {
        CHECK.due("land '" + text + "'", Check.land(new RoundAnothers(), text), Check.fault(place, sort));
    }

    private static void sound(String text, int houses) {
        CHECK.due("land '" + text + "'", Check.land(new RoundAnothers(), text), houses);
    }

    private static void faults() {
        bad("", 0, 0);
        bad("   ", 3, 0);
        bad(";", 0, 0);
        bad("houses 1", 0, 0);
        bad("House 1 1 2 2", 0, 0);
        bad("1 1", 0, 0);
        bad("far 1", 0, 0);
        bad((char) 233 + "wide 5 5", 0, 0);
        bad("wide 5 5" + (char) 0, 8, 0);
        bad("wide 5 5\t", 8, 0);
        bad("wide x", 5, 0);
        bad("wide 5", 6, 0);
        bad("wide 5  ", 8, 0);
        bad("wide 4 5", 5, 1);
        bad("wide 5 41", 7, 1);
        bad("wide 000009 9", 5, 1);
        bad("wide 9 9;wide 9 9", 9, 4);
        bad("wide 9 9;wide", 9, 4);
        bad("worth 100 0 0 1 1", 6, 1);
        bad("worth 5 0 0 1", 13, 0);
        bad("river 0 0 41 1", 10, 1);
        bad("river 0 0 1 0", 12, 1);
        bad("river 41 0 1 1", 6, 1);
        bad("well 40 1", 5, 1);
        bad("well 1 40", 7, 1);
        bad("house 3 3 3 5", 10, 1);
        bad("house 3 3 5 3", 12, 1);
        bad("house 40 0 40 1", 11, 1);
        bad("house 3 3 5", 11, 0);
        bad("house 3 3 5;", 11, 0);
        bad("house 1 1 2 2;", 14, 0);
        bad("house 1 1 2 2 3", 14, 0);
        bad("house 1 1 2 2 333333", 14, 0);
        bad("house 1 1 2 2,", 13, 0);
        bad("house 1 1 2 2 well 1 1", 14, 0);
        bad("house 1 1 3 3;house 3 1 5 3", 20, 5);
        bad("house 1 1 3 3;house  2 2 5 5 x", 21, 5);
        bad("house 1 1 3 3;house 2 2 5 x", 26, 0);
        bad("house 1 1 3 3;house 3 3 5 5", 20, 5);
        bad("house 19 19 21 21", 17, 5);
        bad("house 19 19 21 21;wide 21 20 ", 29, 5);
        bad("house 19 19 21 21;wide 21 2", 26, 1);
    }

    private static void soundLands() {
        sound("wide 5 40", 0);
        sound("wide 00005 00040", 0);
        sound("  wide5 5  ; house1 1 2 2 ", 1);
        sound("house 1 1 3 3;house 4 1 5 3", 2);
        sound("house 1 1 3 3;house 1 4 3 5", 2);
        sound("house 4 4 5 5;house 1 1 3 3", 2);
        sound("house 19 19 21 21;wide 21 21", 1);
        sound("house 0 0 20 20", 1);
        sound("worth 0 0 0 40 40;worth 99 39 39 40 40;well 39 39;river 39 0 40 40", 0);
    }

    private static void clauses() {
        StringBuilder houses = new StringBuilder("house 0 0 1 1");
        for (int i = 1; i < 6; i++) {
            houses.append(";house ").append(2 * i).append(" 0 ").append(2 * i + 1).append(" 1");
        }
        sound(houses.toString(), 6);
        bad(houses + ";house 15 15 16 16", houses.length() + 1, 4);
        bad(houses + ";house", houses.length() + 1, 4);
        StringBuilder wells = new StringBuilder("well 0 0");
        for (int i = 1; i < 24; i++) {
            wells.append(";well 0 0");
        }
        sound(wells.toString(), 0);
        bad(wells + ";well 0 0", 216, 4);
        bad(wells + ";x", 216, 0);
        bad(wells + ";", 216, 0);
    }

    private static void cells() {
        RoundAnothers it = Check.object("worth 7 2 3 4 5;worth 0 3 3 4 4;river 5 5 7 6;well 5 5;wide 8 9;well 30 30;house 1 1 3 4;"
                + "river 7 0 40 40");
        CHECK.due("worth left of", it.cell(1, 3, 0), 1);
        CHECK.due("worth first", it.cell(2, 3, 0), 7);
        CHECK.due("worth last", it.cell(3, 4, 0), 7);
        CHECK.due("worth told last", it.cell(3, 3, 0), 0);
        CHECK.due("worth beyond", it.cell(4, 4, 0), 1);
        CHECK.due("worth of a river", it.cell(5, 5, 0), 1);
        CHECK.due("river", it.cell(6, 5, 1), 1);
        CHECK.due("no river", it.cell(5, 6, 1), 0);
        CHECK.due("well", it.cell(5, 5, 2), 1);
        CHECK.due("no well", it.cell(6, 5, 2), 0);
        CHECK.due("in the house", it.cell(2, 3, 3), 0);
        CHECK.due("below the house", it.cell(2, 4, 3), -1);
        CHECK.due("last cell", it.cell(7, 8, 1), 1);
        CHECK.due("beside the land", it.cell(8, 8, 0), -2);
        CHECK.due("below the land", it.cell(7, 9, 0), -2);
        CHECK.due("left of the land", it.cell(-1, 0, 0), -2);
        CHECK.due("above the land", it.cell(0, -1, 0), -2);
        CHECK.due("what 4", it.cell(0, 0, 4), -2);
        CHECK.due("what -1", it.cell(0, 0, -1), -2);
        it = Check.object("house 5 5 7 7", "far 1");
        it.build(0, 0, 4, 4, 8, 8, 0, -1);
        it.build(0, 0, 3, 3, 9, 9, 6, -1);
        CHECK.due("innermost a house", it.cell(5, 5, 3), 0);
        CHECK.due("innermost the inner wall", it.cell(7, 7, 3), 6);
        CHECK.due("innermost the outer wall", it.cell(8, 8, 3), 7);
        CHECK.due("innermost none", it.cell(9, 9, 3), -1);
    }

    private static void inPlaceOfAnother() {
        RoundAnothers it = Check.object("wide 30 30;house 5 5 7 7", "not deep > 0;not own = 0 and deep = 0 and year > 0");
        it.like(1, 2, 5);
        it.build(0, 0, 4, 4, 8, 8, 0, -1);
        it.errand(0, 1, 0, 0, 3, 3);
        it.years(0, 2);
        CHECK.due("no wall came", it.count(3), 1);
        it.seed(99);
        Check.write(it, "wide 10 x");
        CHECK.due("land with a fault", it.land(), Check.fault(8, 0));
        CHECK.due("the tape is empty", it.count(8), 0);
        CHECK.due("columns stay", it.count(0), 30);
        CHECK.due("a wall stays", it.thing(6, 0), 4);
        CHECK.due("year stays", it.count(4), 2);
        CHECK.due("errand stays", it.sum(1), 6);
        CHECK.due("another land", Check.land(it, "house 1 1 2 2;house 4 4 5 5"), 2);
        CHECK.due("the tape is empty", it.count(8), 0);
        CHECK.due("columns", it.count(0), 20);
        CHECK.due("no walls", it.count(3), 0);
        CHECK.due("no wall 6", it.thing(6, 0), -2);
        CHECK.due("year 0", it.count(4), 0);
        CHECK.due("x stays", it.count(5), 99);
        CHECK.due("no errands", it.sum(1), 0);
        CHECK.due("like stays", it.like(1, 2, 0), 5);
        CHECK.due("laws stay", it.count(6), 1);
        CHECK.due("house is outermost", it.thing(0, 5), -1);
    }
}
