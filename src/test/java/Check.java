import java.io.IOException;
import java.io.UncheckedIOException;
import java.nio.file.Files;
import java.nio.file.Path;

/** What all tests share: texts onto the tape, and answers held against those that are due. */
final class Check {
    static final int NONE = RoundAnothers.NONE;
    private int wrong;
    private int calls;
    private String sentence = "";

    /**
     * The answers that follow are held against these words of the document. With -Ddoc=PATH they
     * must stand in it, so that no test goes on quoting what the document no longer says.
     */
    void says(String words) {
        sentence = "\"" + words + "\": ";
        String path = System.getProperty("doc");
        if (path != null && !document(path).contains(flat(words))) {
            wrong++;
            System.out.println(sentence + "the document has no such words");
        }
    }

    private static String document(String path) {
        try {
            return flat(Files.readString(Path.of(path)));
        } catch (IOException e) {
            throw new UncheckedIOException(e);
        }
    }

    private static String flat(String words) {
        return words.replaceAll("\\s+", " ");
    }

    void due(String call, long got, long want) {
        calls++;
        if (got != want) {
            wrong++;
            System.out.println(sentence + call + " answered " + got + ", due is " + want);
        }
    }

    void due(String call, boolean got, boolean want) {
        due(call, got ? 1 : 0, want ? 1 : 0);
    }

    void end() {
        System.out.println(calls + " answers, " + wrong + " not as due");
        if (wrong != 0 || calls == 0) {
            System.exit(1);
        }
    }

    /** The tape is this text, and nothing else. */
    static void write(RoundAnothers it, String text) {
        it.end(0);
        for (int at = 0; at < text.length(); at += 20) {
            int[] five = new int[5];
            for (int i = 0; i < 20 && at + i < text.length(); i++) {
                five[i / 4] |= text.charAt(at + i) << 24 - 8 * (i % 4);
            }
            it.feed(five[0], five[1], five[2], five[3], five[4]);
        }
        it.end(text.length());
    }

    static int land(RoundAnothers it, String text) {
        write(it, text);
        return it.land();
    }

    static int law(RoundAnothers it, String text) {
        write(it, text);
        return it.text(0);
    }

    static int wish(RoundAnothers it, String text) {
        write(it, text);
        return it.text(1);
    }

    static RoundAnothers object(String land, String... laws) {
        RoundAnothers it = new RoundAnothers();
        land(it, land);
        for (String law : laws) {
            law(it, law);
        }
        return it;
    }

    /** All numbers are taken: three walls round each of houses 0 to 4, nine (21 to 29) round house 5. */
    static RoundAnothers full(String... laws) {
        RoundAnothers it = object("wide 40 40;house 3 3 4 4;house 11 3 12 4;house 19 3 20 4;house 27 3 28 4;"
                + "house 35 3 36 4;house 19 24 20 25", laws);
        int number = 6;
        for (int h = 0; h < 5; h++) {
            for (int i = 0; i < 3; i++) {
                it.build(0, h, 2 + 8 * h - i, 2 - i, 5 + 8 * h + i, 5 + i, i == 0 ? h : number - 1, NONE);
                number++;
            }
        }
        for (int i = 0; i < 9; i++) {
            it.build(0, 11, 18 - i, 23 - i, 21 + i, 26 + i, i == 0 ? 5 : number - 1, NONE);
            number++;
        }
        return it;
    }

    /** All of an object that can be asked, in one number: what it holds is as before afterwards. */
    static long print(RoundAnothers it) {
        long print = 7;
        for (int what = 0; what < 9; what++) {
            print = print * 31 + it.count(what);
        }
        for (int thing = 0; thing < 30; thing++) {
            for (int what = 0; what < 12; what++) {
                print = print * 31 + it.thing(thing, what);
            }
            for (int family = 0; family < 12; family++) {
                boolean had = it.key(thing, family, false) && it.key(thing, family, true);
                print = print * 31 + (had ? 1 : 0);
            }
        }
        for (int of = 0; of < 12; of++) {
            for (int to = 0; to < 12; to++) {
                int was = it.like(of, to, 0);
                it.like(of, to, was);
                print = print * 31 + was;
            }
        }
        for (int cell = 0; cell < 6400; cell++) {
            print = print * 31 + it.cell(cell / 4 % 40, cell / 160, cell % 4);
        }
        return (print * 31 + it.sum(0)) * 31 + it.sum(1);
    }

    /** What is answered for a fault. */
    static int fault(int place, int sort) {
        return -2 - (1 + 8 * place + sort);
    }
}
