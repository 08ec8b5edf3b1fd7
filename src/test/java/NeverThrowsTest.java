import java.lang.reflect.Method;
import java.lang.reflect.Modifier;
import java.util.ArrayList;
import java.util.Comparator;
import java.util.List;
import java.util.Random;

/** Any calls in any order with any arguments, the wildest ones too: none throws, and the last one still ends. */
public final class NeverThrowsTest {
    private static final int[] WILD = {Integer.MIN_VALUE, Integer.MIN_VALUE + 1, -1000000, -101, -100, -10, -9, -3, -2, -1, 0, 1, 2, 3,
        4, 5, 6, 7, 11, 12, 19, 20, 21, 29, 30, 31, 39, 40, 41, 60, 61, 255, 256, 400, 401, 999, 1000, 65536, 1 << 30,
        Integer.MAX_VALUE - 1, Integer.MAX_VALUE};
    private static final String[] WORDS = {"wide", "worth", "river", "well", "house", "far", "may", "not", "join", "want", "if", "and",
        "or", "long", "width", "deep", "own", "like", "year", "two", "[", "]", "+", "-", "*", "/", "<", "<=", "=", ">=", ">", ";", "0",
        "1", "5", "40", "99999", "123456", "32768*32768*32768*32768*8", "x", "\t"};

    public static void main(String[] args) throws ReflectiveOperationException {
        List<Method> face = new ArrayList<>();
        for (Method m : RoundAnothers.class.getDeclaredMethods()) {
            if (Modifier.isPublic(m.getModifiers())) {
                face.add(m);
            }
        }
        // The order in which a machine tells methods is its own.
        face.sort(Comparator.comparing(Method::getName));
        int calls = 0;
        for (int run = 0; run < 400; run++) {
            calls += play(face, new Random(run));
        }
        System.out.println(calls + " calls, none threw");
        System.exit(calls > 0 && face.size() == 31 ? 0 : 1);
    }

    private static int play(List<Method> face, Random random) throws ReflectiveOperationException {
        RoundAnothers it = new RoundAnothers();
        if (random.nextInt(4) != 0) {
            it = random.nextInt(3) == 0 ? Check.full("far 1;join 1", "may long / own > 0")
                    : Check.object("house 3 3 5 5;house 9 3 11 5;house 3 9 4 10;river 0 7 20 8;well 4 4", "far 1;join 1", "far deep");
            Check.wish(it, "want ground * worth / like");
        }
        for (int i = 0; i < 512; i++) {
            if (random.nextInt(20) == 0) {
                Check.write(it, text(random));
            }
            Method m = face.get(random.nextInt(face.size()));
            m.invoke(it, arguments(m, random));
        }
        return 512;
    }

    private static Object[] arguments(Method m, Random random) {
        Object[] all = new Object[m.getParameterCount()];
        boolean tame = random.nextInt(3) != 0;
        for (int i = 0; i < all.length; i++) {
            if (m.getParameterTypes()[i] == boolean.class) {
                all[i] = random.nextBoolean();
            } else if (tame) {
                all[i] = random.nextInt(4) == 0 ? random.nextInt(41) - 1 : random.nextInt(8) - 1;
            } else {
                all[i] = random.nextInt(8) == 0 ? random.nextInt() : WILD[random.nextInt(WILD.length)];
            }
        }
        return all;
    }

    private static String text(Random random) {
        StringBuilder s = new StringBuilder();
        int words = random.nextInt(random.nextInt(4) == 0 ? 200 : 12);
        for (int i = 0; i < words; i++) {
            s.append(random.nextInt(30) == 0 ? "" + (char) random.nextInt(256) : WORDS[random.nextInt(WORDS.length)]);
            s.append(random.nextInt(3) == 0 ? "" : " ");
        }
        return s.length() > 400 ? s.substring(0, 400) : s.toString();
    }
}
