/** Promises 20 and 21: nests, between. */
public final class NestTest {
    private static final Check CHECK = new Check();

    public static void main(String[] args) {
        nests();
        between();
        CHECK.end();
    }

    private static void all(String name, RoundAnothers it, int... want) {
        for (int what = 0; what < 5; what++) {
            CHECK.due("nests " + name + " " + what, it.nests(what), want[what]);
        }
    }

    private static void nests() {
        RoundAnothers it = new RoundAnothers();
        all("of a new object", it, 0, 400, -1, -1, 12);
        CHECK.due("what 5", it.nests(5), -1);
        CHECK.due("what -1", it.nests(-1), -1);
        it = Check.object("wide 30 20;house 4 4 6 6;house 10 4 11 7;house 18 4 20 6", "join 1");
        all("of houses", it, 3, 600 - 4 - 3 - 4, 0, 0, 12);
        it.build(0, 7, 9, 3, 12, 8, 1, -1);
        all("of one wall", it, 3, 600 - 4 - 15 - 4, 1, 1, 11);
        it.build(0, 7, 17, 3, 21, 7, 2, -1);
        it.build(0, 8, 16, 2, 22, 8, 7, -1);
        all("of three walls", it, 3, 600 - 4 - 15 - 36, 2, 2, 10);
        it.build(0, 0, 3, 2, 13, 9, 0, 6);
        all("of four walls", it, 2, 600 - 70 - 36, 1, 2, 9);
        it.pull(6);
        all("after a pull", it, 2, 600 - 70 - 36, 2, 2, 9);
    }

    private static void between() {
        RoundAnothers it = Check.object("house 4 4 6 6;house 10 8 11 11;house 0 15 2 17", "far 1");
        CHECK.due("0 and 1", it.between(0, 1), 9 * 9 - 4 - 3);
        CHECK.due("1 and 0", it.between(1, 0), 9 * 9 - 4 - 3);
        CHECK.due("at the edge", it.between(0, 2), -2);
        CHECK.due("alike", it.between(0, 0), -1);
        CHECK.due("none such", it.between(0, 3), -1);
        CHECK.due("none such", it.between(-1, 0), -1);
        CHECK.due("none such", it.between(30, 0), -1);
        it.build(0, 0, 3, 3, 7, 7, 0, -1);
        CHECK.due("not outermost", it.between(0, 1), -1);
        CHECK.due("wall and house", it.between(6, 1), 10 * 10 - 16 - 3);
        it = Check.object("wide 10 10;house 1 1 2 2;house 8 8 9 9", "far 1");
        CHECK.due("all of the land", it.between(0, 1), 98);
        it = Check.object("wide 10 9;house 1 1 2 2;house 7 7 9 9", "far 1");
        CHECK.due("below the land", it.between(0, 1), -2);
    }
}
