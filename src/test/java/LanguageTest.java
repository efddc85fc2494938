import java.io.IOException;
import java.lang.reflect.Constructor;
import java.lang.reflect.Field;
import java.lang.reflect.Method;
import java.lang.reflect.Modifier;
import java.nio.file.Files;
import java.nio.file.Path;
import java.util.Arrays;
import java.util.Random;
import java.util.Set;
import java.util.TreeSet;
import java.util.regex.Matcher;
import java.util.regex.Pattern;

/** The rules of LANGUAGE.md that a program can look at, and that no call throws, whatever its arguments. */
public final class LanguageTest {
    private static final String FACE = "boolean starter(int,long) int add(int,int) int child(int,int) int clear() "
        + "int count(int) int create(int,long) int element(int,int) int event(int) int extension(long,int) "
        + "int extensions(long) int need(int,int,int) int object(int,int) int plugin(int,int) int provide(long,int) "
        + "int remove(int) int shutdown() int stopped(int) int text(long) long attribute(int,long) long name(int)";
    private static final String CONSTANTS = "BROKEN EXISTS FULL NOT_AWAKE NO_CLASS NO_NAME OTHER_TYPE REFUSED";
    private static final String BANNED = "\\b(throw|throws|try|catch|finally|synchronized|assert|native|volatile|package|"
        + "Thread|Random|random|\\w+Exact)\\b|->|::|System\\.(?!arraycopy)|java\\.(?!util\\.(ArrayList|List|Arrays|Iterator);)";
    private static final int[] NUMBERS = {Integer.MIN_VALUE, -129, -128, -17, -16, -2, -1, 0, 1, 2, 3, 4, 5, 6, 7, 8, 9,
        10, 15, 16, 17, 23, 24, 31, 32, 33, 112, 127, 128, 129, 255, 256, Integer.MAX_VALUE};
    private static int wrong = 0;

    public static void main(String[] args) throws IOException {
        face();
        classes();
        source(Files.readString(Path.of("src/main/java/PluginHall.java")));
        for (int seed = 0; seed < 2000; seed++) {
            anyCalls(new Random(seed));
        }
        System.out.println(wrong + " rules broken");
        if (wrong != 0) {
            System.exit(1);
        }
    }

    private static void must(String rule, boolean kept) {
        if (!kept) {
            wrong++;
            System.out.println(rule);
        }
    }

    private static void face() {
        Class<?> hall = PluginHall.class;
        Set<String> methods = new TreeSet<>();
        Set<String> publicNames = new TreeSet<>();
        for (Method each : hall.getDeclaredMethods()) {
            if (Modifier.isPublic(each.getModifiers())) {
                String types = Arrays.toString(each.getParameterTypes()).replaceAll("[\\[\\] ]", "");
                methods.add(each.getReturnType() + " " + each.getName() + "(" + types + ")");
                publicNames.add(each.getName());
                must("1: static " + each, !Modifier.isStatic(each.getModifiers()));
            }
        }
        must("1: the methods are " + methods, String.join(" ", methods).equals(FACE));
        for (Method each : hall.getDeclaredMethods()) {
            if (each.isSynthetic()) {
                continue;
            }
            boolean isPrivate = Modifier.isPrivate(each.getModifiers());
            must("1: " + each, Modifier.isPublic(each.getModifiers()) || isPrivate && !publicNames.contains(each.getName()));
        }
        Set<String> constants = new TreeSet<>();
        for (Field each : hall.getDeclaredFields()) {
            if (!Modifier.isPrivate(each.getModifiers())) {
                constants.add(each.getName());
                must("1: " + each, Modifier.isPublic(each.getModifiers()) && each.getType() == int.class);
            }
        }
        must("1: the constants are " + constants, String.join(" ", constants).equals(CONSTANTS));
        must("1: public and final", hall.getModifiers() == (Modifier.PUBLIC | Modifier.FINAL));
        Constructor<?>[] made = hall.getDeclaredConstructors();
        must("1: one constructor", made.length == 1 && made[0].getParameterCount() == 0
            && Modifier.isPublic(made[0].getModifiers()));
    }

    private static void classes() {
        Class<?>[] inside = PluginHall.class.getDeclaredClasses();
        must("11: classes", inside.length <= 12);
        for (Class<?> each : inside) {
            must("1: static " + each, Modifier.isStatic(each.getModifiers()) && !Modifier.isPublic(each.getModifiers()));
            int fields = 0;
            for (Field field : each.getDeclaredFields()) {
                fields += Modifier.isStatic(field.getModifiers()) ? 0 : 1;
                must("5: " + field, !Modifier.isStatic(field.getModifiers()) || Modifier.isFinal(field.getModifiers()));
            }
            must("11: fields of " + each, fields <= 20);
            for (Method method : each.getDeclaredMethods()) {
                must("11: " + method, method.getParameterCount() <= 7);
            }
        }
    }

    private static void source(String text) {
        String code = text.replaceAll("(?s)/\\*.*?\\*/", "").replaceAll("//[^\n]*", "");
        code = code.replaceAll("(case [^:;{}]*|default *)->", "$1:");
        Matcher banned = Pattern.compile(BANNED).matcher(code);
        while (banned.find()) {
            must("4, 6 or 13: " + banned.group(), false);
        }
        int length = 0;
        for (String line : code.split("\n")) {
            boolean begins = line.matches(" {4}(?: {4})?[a-zA-Z].*\\) \\{");
            length = begins ? 0 : length + 1;
            must("11: a long method ends at " + line, !line.matches(" {4}(?: {4})?\\}") || length <= 60);
        }
    }

    private static int number(Random random) {
        return random.nextInt(3) > 0 ? random.nextInt(9) : NUMBERS[random.nextInt(NUMBERS.length)];
    }

    private static long someLong(Random random) {
        switch (random.nextInt(4)) {
            case 0: return random.nextLong();
            case 1: return NUMBERS[random.nextInt(NUMBERS.length)];
            case 2: return 'p';
            default: return random.nextLong() & 0x7f7f7f7f7f7f7f7fL;
        }
    }

    private static String piece(Random random) {
        String[] pieces = {"<point id=\"p\"/>", "<ext point=\"p\" c=\"p\"/>", "<ext point=\"p\">", "<a c=\"p\">", "</a>",
            "</ext>", "<", "/", ">", "\"", "=", " ", "a", "<point id=\"p\"><item name=\"a\"/></point>"};
        return pieces[random.nextInt(pieces.length)];
    }

    /** How many calls that took; whether there was room for the letters is all the same here. */
    private static int write(PluginHall hall, String piece) {
        int calls = 0;
        for (int i = 0; i < piece.length(); i += 8) {
            hall.text(Asking.word(piece.substring(i, Math.min(i + 8, piece.length()))));
            calls++;
        }
        return calls;
    }

    /** An exception ends the test with an exit code other than 0. */
    private static void anyCalls(Random random) {
        PluginHall hall = new PluginHall();
        for (int calls = 0; calls < 500; calls++) {
            int a = number(random);
            int b = number(random);
            long w = someLong(random);
            switch (random.nextInt(24)) {
                case 0: hall.text(w); break;
                case 1: hall.need(a, b, number(random)); break;
                case 2: hall.provide(w, b); break;
                case 3: hall.starter(a, w); break;
                case 4: if (random.nextInt(4) == 0) hall.clear(); break;
                case 5: hall.add(a, b); break;
                case 6: hall.remove(a); break;
                case 7: hall.plugin(a, b); break;
                case 8: hall.extensions(w); break;
                case 9: hall.extension(w, a); break;
                case 10: hall.element(16 * a + b, number(random)); break;
                case 11: hall.name(16 * a + b); break;
                case 12: hall.child(16 * a + b, number(random)); break;
                case 13: hall.attribute(16 * a + b, w); break;
                case 14: hall.create(16 * a + b, w); break;
                case 15: hall.create(16 * a + b, 'c'); break;
                case 16: hall.object(a, b); break;
                case 17: hall.event(a); break;
                case 18: if (random.nextInt(4) == 0) hall.shutdown(); break;
                case 19: hall.stopped(a); break;
                case 20: hall.count(a); break;
                default: calls += write(hall, piece(random)) - 1; break;
            }
        }
    }
}
