/** Promises 1 to 3 and 30: a new object, feed, end, count. */
public final class TapeTest {
    private static final Check CHECK = new Check();

    public static void main(String[] args) {
        newObject();
        feed();
        end();
        count();
        CHECK.end();
    }

    private static void newObject() {
        RoundAnothers it = new RoundAnothers();
        int[] want = {20, 20, 0, 0, 0, 0, 0, 0, 0};
        for (int what = 0; what < want.length; what++) {
            CHECK.due("count " + what, it.count(what), want[what]);
        }
        CHECK.due("nests 0", it.nests(0), 0);
        CHECK.due("nests 1", it.nests(1), 400);
        CHECK.due("cell 19 19 worth", it.cell(19, 19, 0), 1);
        CHECK.due("cell 20 19 worth", it.cell(20, 19, 0), -2);
        CHECK.due("thing 0", it.thing(0, 0), -2);
        CHECK.due("can without texts", it.can(0, 0, 1, 1, 5, 5, 0, -1), -1);
        CHECK.due("NONE", RoundAnothers.NONE, -1);
    }

    private static void feed() {
        RoundAnothers it = new RoundAnothers();
        for (int i = 1; i <= 20; i++) {
            CHECK.due("feed " + i, it.feed(i, i, i, i, i), 20 * i);
        }
        CHECK.due("feed beyond 400", it.feed(1, 1, 1, 1, 1), -1);
        CHECK.due("none came", it.count(8), 400);
        CHECK.due("end 381", it.end(381), 381);
        CHECK.due("feed beyond 400 from 381", it.feed(1, 1, 1, 1, 1), -1);
        CHECK.due("end 380", it.end(380), 380);
        CHECK.due("feed to 400", it.feed(1, 1, 1, 1, 1), 400);
        // "wide 7 9;well 0 0 ", the highest byte of each number first
        it = new RoundAnothers();
        it.feed(0x77696465, 0x20372039, 0x3b77656c, 0x6c203020, 0x30202020);
        CHECK.due("land of those bytes", it.land(), 0);
        CHECK.due("columns", it.count(0), 7);
        CHECK.due("rows", it.count(1), 9);
        CHECK.due("well", it.cell(0, 0, 2), 1);
    }

    private static void end() {
        RoundAnothers it = new RoundAnothers();
        CHECK.due("end 0 of none", it.end(0), 0);
        CHECK.due("end 1 of none", it.end(1), -1);
        it.feed(0, 0, 0, 0, 0);
        CHECK.due("end 21 of 20", it.end(21), -1);
        CHECK.due("end -1", it.end(-1), -1);
        CHECK.due("nothing happened", it.count(8), 20);
        CHECK.due("end 20 of 20", it.end(20), 20);
        CHECK.due("end 7", it.end(7), 7);
        CHECK.due("seven", it.count(8), 7);
        CHECK.due("end 8 of 7", it.end(8), -1);
        CHECK.due("behind seven", it.feed(0, 0, 0, 0, 0), 27);
    }

    private static void count() {
        RoundAnothers it = Check.object("wide 30 25;house 5 5 7 7;house 12 12 13 13", "far 1", "join 1");
        Check.wish(it, "want 1");
        it.build(0, 0, 4, 4, 8, 8, 0, -1);
        it.seed(77);
        it.feed(0, 0, 0, 0, 0);
        int[] want = {30, 25, 2, 1, 0, 77, 2, 1, 20};
        for (int what = 0; what < want.length; what++) {
            CHECK.due("count " + what, it.count(what), want[what]);
        }
        it.years(0, 3);
        CHECK.due("year", it.count(4), 3);
        CHECK.due("count -1", it.count(-1), -1);
        CHECK.due("count 9", it.count(9), -1);
    }
}
