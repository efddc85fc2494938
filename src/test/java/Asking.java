/** What the tests have in common: answers that are due, by the sentence that asks for them, and ways to fill a hall. */
abstract class Asking {
    static final int REFUSED = PluginHall.REFUSED, FULL = PluginHall.FULL, EXISTS = PluginHall.EXISTS;
    static final int NO_NAME = PluginHall.NO_NAME, NO_CLASS = PluginHall.NO_CLASS, NOT_AWAKE = PluginHall.NOT_AWAKE;
    static final int BROKEN = PluginHall.BROKEN, OTHER_TYPE = PluginHall.OTHER_TYPE;
    static final int LEAST = Integer.MIN_VALUE, MOST = Integer.MAX_VALUE;
    static final String POINT_P = "<point id=\"p\"/>";

    private static final int MOST_TOLD = 40;
    private static String sentence = "";
    private static int asked = 0;
    private static int wrong = 0;

    /** The words of the document that the answers from here on are due by. */
    static void sentence(String quoted) {
        sentence = quoted;
    }

    static void due(String what, long got, long want) {
        asked++;
        if (got != want) {
            fail(what + " answered " + got + ", due is " + want);
        }
    }

    static void due(String what, boolean got, boolean want) {
        due(what, got ? 1 : 0, want ? 1 : 0);
    }

    static void fail(String what) {
        wrong++;
        if (wrong <= MOST_TOLD) {
            System.out.println(sentence.isEmpty() ? what : "\"" + sentence + "\": " + what);
        }
    }

    static void end() {
        System.out.println(asked + " answers asked for, " + wrong + " wrong");
        if (wrong != 0) {
            System.exit(1);
        }
    }

    static long word(String letters) {
        long w = 0;
        for (int i = letters.length() - 1; i >= 0; i--) {
            w = w << 8 | letters.charAt(i);
        }
        return w;
    }

    static PluginHall write(PluginHall hall, String text) {
        for (int i = 0; i < text.length(); i += 8) {
            if (hall.text(word(text.substring(i, Math.min(i + 8, text.length())))) < 0) {
                fail("text was not taken: " + text);
            }
        }
        return hall;
    }

    static int install(PluginHall hall, int p, int version, String text) {
        return write(hall, text).add(p, version);
    }

    /** A hall where PLUGIN 0 has the POINT p and an EXTENSION of it that names word as c; the DRAFT is empty. */
    static PluginHall hallNaming(String word, int classKind, int starterKind, String asks) {
        PluginHall hall = new PluginHall();
        hall.provide(word(word), classKind);
        hall.starter(starterKind, word(asks));
        install(hall, 0, 1, POINT_P + "<ext point=\"p\" c=\"" + word + "\"/>");
        return hall;
    }
}
