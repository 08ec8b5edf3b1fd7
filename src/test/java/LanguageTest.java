import java.io.IOException;
import java.lang.reflect.Field;
import java.lang.reflect.Method;
import java.lang.reflect.Modifier;
import java.nio.file.Files;
import java.nio.file.Path;
import java.util.ArrayList;
import java.util.List;
import java.util.TreeSet;
import java.util.regex.Matcher;
import java.util.regex.Pattern;

/** The rules of LANGUAGE.md that can be seen from outside, and the face (the source's path is the argument). */
public final class LanguageTest {
    private static final List<String> FACE = List.of("int feed(int,int,int,int,int)", "int end(int)", "int land()",
            "int text(int)", "int like(int,int,int)", "int can(int,int,int,int,int,int,int,int)",
            "int build(int,int,int,int,int,int,int,int)", "long wish(int,int,int,int,int,int,int,int)",
            "boolean pull(int)", "boolean gate(int,int,int,int)", "boolean key(int,int,boolean)", "int thing(int,int)",
            "int cell(int,int,int)", "int inside(int,int)", "int best(int,int,int,int,int,int,int)",
            "int ahead(int,int,int,int,int,int,int)", "int least(int,int,int,int,int)", "int most(int,int,int)",
            "int nests(int)", "int between(int,int)", "int way(int,int,int,int,int,int)",
            "boolean errand(int,int,int,int,int,int)", "int sum(int)", "int where(int,int)", "int gains(int)",
            "int seed(int)", "int years(int,int)", "int after(int,int,int)", "int count(int)", "int image(int)",
            "int back(int)");
    private static final String[] FORBIDDEN = {"throw", "throws", "try", "catch", "synchronized", "assert", "double", "float",
        "->", "::", "System.out", "Random", "Thread", "hashCode", "package", "Exact", "finally", "while (true)", "for (;;)"};
    private static int wrong;

    public static void main(String[] args) throws IOException {
        String source = Files.readString(Path.of(args.length > 0 ? args[0] : "src/main/java/RoundAnothers.java"));
        face();
        classes();
        words(bare(source));
        lengths(bare(source));
        System.out.println(wrong == 0 ? "the rules are kept" : wrong + " rules are not kept");
        System.exit(wrong == 0 ? 0 : 1);
    }

    private static void rule(boolean kept, String what) {
        if (!kept) {
            wrong++;
            System.out.println("not kept: " + what);
        }
    }

    private static String told(Method m) {
        List<String> parameters = new ArrayList<>();
        for (Class<?> p : m.getParameterTypes()) {
            parameters.add(p.getName());
        }
        return m.getReturnType().getName() + " " + m.getName() + "(" + String.join(",", parameters) + ")";
    }

    private static void face() {
        TreeSet<String> open = new TreeSet<>();
        for (Method m : RoundAnothers.class.getDeclaredMethods()) {
            if (!Modifier.isPrivate(m.getModifiers())) {
                open.add(told(m));
                rule(Modifier.isPublic(m.getModifiers()) && !Modifier.isStatic(m.getModifiers()), "public " + m);
            }
        }
        rule(open.equals(new TreeSet<>(FACE)), "the face: " + open);
        for (Field f : RoundAnothers.class.getDeclaredFields()) {
            rule(Modifier.isPrivate(f.getModifiers()) || f.getName().equals("NONE"), "private " + f);
        }
        rule(Modifier.isFinal(RoundAnothers.class.getModifiers()), "a final class");
        rule(RoundAnothers.class.getDeclaredConstructors().length == 1, "one constructor");
    }

    private static void classes() {
        List<Class<?>> all = new ArrayList<>(List.of(RoundAnothers.class.getDeclaredClasses()));
        for (Class<?> c : all) {
            rule(Modifier.isStatic(c.getModifiers()), "static " + c);
        }
        rule(all.size() < 12, "twelve classes: " + (all.size() + 1));
        all.add(RoundAnothers.class);
        TreeSet<String> names = new TreeSet<>();
        for (String f : FACE) {
            names.add(f.substring(f.indexOf(' ') + 1, f.indexOf('(')));
        }
        for (Class<?> c : all) {
            int fields = 0;
            for (Field f : c.getDeclaredFields()) {
                fields += Modifier.isStatic(f.getModifiers()) ? 0 : 1;
                rule(!Modifier.isStatic(f.getModifiers()) || Modifier.isFinal(f.getModifiers()), "static is final: " + f);
            }
            rule(fields <= 20, "twenty fields: " + c + " " + fields);
            for (Method m : c.getDeclaredMethods()) {
                boolean ofFace = c == RoundAnothers.class && Modifier.isPublic(m.getModifiers());
                rule(ofFace || !names.contains(m.getName()), "a name of the face: " + m);
                rule(ofFace || m.getParameterCount() <= 7, "seven parameters: " + m);
            }
        }
    }

    /** The source without comments and texts. */
    private static String bare(String source) {
        return source.replaceAll("(?s)/\\*.*?\\*/", "").replaceAll("//[^\n]*", "").replaceAll("\"[^\"\n]*\"", "\"\"");
    }

    private static void words(String source) {
        for (String word : FORBIDDEN) {
            boolean name = Character.isLetter(word.charAt(0));
            Matcher m = Pattern.compile(name ? "\\b" + Pattern.quote(word) + (word.endsWith(")") ? "" : "\\b") : Pattern.quote(word))
                    .matcher(source);
            rule(!m.find(), "no " + word);
        }
        Matcher imports = Pattern.compile("import ([^;]*);").matcher(source);
        while (imports.find()) {
            rule(imports.group(1).equals("java.util.Arrays"), "import " + imports.group(1));
        }
        Matcher calls = Pattern.compile("\\b(System|Arrays|Math|Integer|Long)\\.(\\w+)").matcher(source);
        while (calls.find()) {
            rule(List.of("arraycopy", "fill", "copyOf", "max", "min").contains(calls.group(2)), "library: " + calls.group());
        }
        rule(!Pattern.compile("\"\"\\s*\\+|\\+\\s*\"\"").matcher(source).find(), "no texts joined by +");
        rule(!source.contains("\t"), "no tabs");
    }

    /** A method begins at four or eight blanks and ends with a brace as far in. */
    private static void lengths(String source) {
        Matcher m = Pattern.compile("(?m)^( {4}| {8})(?!private static final class|switch|if|for|while)\\S[^;{}]*\\)\\s*\\{\n(?:.*\n)*?\\1\\}\n")
                .matcher(source);
        while (m.find()) {
            long lines = m.group().lines().count();
            rule(lines <= 60, "sixty lines: " + m.group().lines().findFirst().orElse("") + " " + lines);
        }
        for (String line : source.split("\n")) {
            rule(line.length() <= 120, "a line too long: " + line);
        }
    }
}
