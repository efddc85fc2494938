/** The DRAFT, sentence by sentence where one names an edge: promises 1 to 6, and the terms that they use. */
public final class DraftEdgesTest extends Asking {
    private static final int[] NO_PLUGINS = {LEAST, -256, -8, -1, 8, 9, 15, 16, 255, 256, MOST};

    public static void main(String[] args) {
        constants();
        newObject();
        wordLetters();
        wordLengths();
        zerosBehind();
        appended();
        firstZero();
        noLetters();
        fullText();
        fullTextStays();
        neededPlugins();
        neededVersions();
        needsAreFull();
        needsOfOneRow();
        classWords();
        classKinds();
        classesAreFull();
        starterKinds();
        starterWords();
        starterThatAsksForNothing();
        starterRefused();
        starterSetAgain();
        clearedText();
        clearedWiring();
        clearedStarter();
        clearLeavesPlugins();
        end();
    }

    private static void constants() {
        sentence("REFUSED = -1, FULL = -2, EXISTS = -3, NO_NAME = -4, NO_CLASS = -5, NOT_AWAKE = -6, BROKEN = -7, OTHER_TYPE = -8");
        due("REFUSED", PluginHall.REFUSED, -1);
        due("FULL", PluginHall.FULL, -2);
        due("EXISTS", PluginHall.EXISTS, -3);
        due("NO_NAME", PluginHall.NO_NAME, -4);
        due("NO_CLASS", PluginHall.NO_CLASS, -5);
        due("NOT_AWAKE", PluginHall.NOT_AWAKE, -6);
        due("BROKEN", PluginHall.BROKEN, -7);
        due("OTHER_TYPE", PluginHall.OTHER_TYPE, -8);
    }

    private static void newObject() {
        sentence("An empty DRAFT, no PLUGINS.");
        PluginHall hall = new PluginHall();
        for (int what = 0; what <= 9; what++) {
            due("count " + what, hall.count(what), 0);
        }
        for (int p = 0; p < 8; p++) {
            for (int what = 0; what <= 7; what++) {
                due("plugin " + p + ", " + what, hall.plugin(p, what), 0);
            }
            due("remove " + p, hall.remove(p), REFUSED);
        }
        for (int handle = 0; handle < 128; handle++) {
            due("name " + handle, hall.name(handle), 0);
        }
        due("event", hall.event(0), REFUSED);
        due("stopped", hall.stopped(0), REFUSED);
        due("object", hall.object(0, 2), REFUSED);
        due("shutdown", hall.shutdown(), 0);
        due("the first NEED", hall.need(0, 0, 255), 1);
        due("the first CLASS", hall.provide(word("k"), 0), 1);
        due("the first LETTER", hall.text(' '), 1);
        hall = hallWithoutStarter();
        due("no STARTER that fails", hall.create(1, word("c")), 0);
    }

    private static PluginHall hallWithoutStarter() {
        PluginHall hall = new PluginHall();
        hall.provide(word("k"), 0);
        install(hall, 0, 1, POINT_P + "<ext point=\"p\" c=\"k\"/>");
        return hall;
    }

    private static void dueWord(String what, long w, boolean isWord) {
        due("provide, " + what, new PluginHall().provide(w, 0), isWord ? 1 : REFUSED);
        due("starter, " + what, new PluginHall().starter(1, w), isWord || w == 0);
    }

    private static void wordLetters() {
        sentence("A WORD is a row of 1..8 letters a-z, 0-9 and . (97..122, 48..57, 46)");
        for (int code = 1; code < 256; code++) {
            boolean letter = code >= 97 && code <= 122 || code >= 48 && code <= 57 || code == 46;
            for (int place = 0; place < 8; place++) {
                long octet = (long) code << 8 * place;
                dueWord("last of them " + code + " at " + place, word("z0.a9bcd".substring(0, place)) | octet, letter);
                dueWord("one of them " + code + " at " + place, word("z0.a9bcd") & ~(255L << 8 * place) | octet, letter);
            }
        }
    }

    private static void wordLengths() {
        sentence("A WORD is a row of 1..8 letters");
        dueWord("of no letter", 0, false);
        for (int n = 1; n <= 8; n++) {
            dueWord("of letters: " + n, word("zzzzzzzz".substring(0, n)), true);
        }
    }

    private static void zerosBehind() {
        sentence("the code of the first letter in the lowest 8 bits, of the second one in the next 8, and so on, zeros behind");
        for (int zero = 0; zero < 7; zero++) {
            dueWord("letters all round the zero at " + zero, word("abcdefgh") & ~(255L << 8 * zero), false);
            dueWord("a letter far behind the zero at " + zero, word("abcdefgh".substring(0, zero)) | (long) 'a' << 56, false);
            dueWord("no letter behind the zero at " + zero, word("abcdefgh".substring(0, zero)), zero > 0);
        }
        PluginHall hall = hallNaming("ab", 0, 0, "");
        due("the order of letters counts", hall.attribute(1, word("c")), 'a' | 'b' << 8);
    }

    private static void appended() {
        sentence("Appends the LETTERS in the 8 octets of w, the lowest first");
        PluginHall hall = new PluginHall();
        due("eight", hall.text('<' | 'a' << 8 | ' ' << 16 | 'b' << 24 | (long) '=' << 32 | (long) '"' << 40 | (long) '1' << 48
            | (long) '"' << 56), 8);
        due("two more", hall.text('/' | '>' << 8), 10);
        due("they are WHOLE", hall.add(0, 0), 0);
        due("in their order", hall.name(0), 'a');
        due("in their order", hall.attribute(0, 'b'), '1');
        hall = new PluginHall();
        for (int n = 1; n <= 100; n++) {
            due("one at a time", hall.text(127), n);
        }
    }

    private static void firstZero() {
        sentence("up to the first octet that is 0: how many the TEXT has");
        for (int n = 1; n <= 7; n++) {
            long behind = n == 7 ? 0 : -1L << 8 * (n + 1);
            PluginHall hall = new PluginHall();
            due("behind " + n + " all is free", hall.text(word("<a/>   ".substring(0, n)) | behind), n);
            due("LETTERS", hall.count(9), n);
            due("no more are read", hall.add(0, 0), n < 4 ? 1 : 0);
            due("no more are read", hall.plugin(0, 3), n < 4 ? n : -1);
        }
        PluginHall hall = new PluginHall();
        due("also a LETTER", hall.text(word("<a/>") | (long) 'x' << 40), 4);
        due("also a LETTER", hall.add(0, 0), 0);
    }

    private static void noLetters() {
        sentence("REFUSED if the lowest octet is 0, or one before the first 0 is above 127");
        due("nothing", new PluginHall().text(0), REFUSED);
        due("all ones", new PluginHall().text(-1), REFUSED);
        due("the least", new PluginHall().text(Long.MIN_VALUE), REFUSED);
        due("the greatest", new PluginHall().text(Long.MAX_VALUE), REFUSED);
        due("a zero before letters", new PluginHall().text(word("aaaaaaa") << 8), REFUSED);
        sentence("LETTERS are codes 1..127");
        for (int code = 1; code < 256; code++) {
            for (int place = 0; place < 8; place++) {
                PluginHall hall = new PluginHall();
                int due = code <= 127 ? place + 1 : REFUSED;
                due("the last one " + code + " at " + place, hall.text(word("aaaaaaa".substring(0, place)) | (long) code << 8 * place), due);
                due("taken or not", hall.count(9), Math.max(due, 0));
            }
            int due = code <= 127 ? 8 : REFUSED;
            due("the first one " + code, new PluginHall().text(word("aaaaaaaa") & ~255L | code), due);
        }
    }

    private static void fullText() {
        sentence("FULL if there would be more than 200");
        for (int had = 190; had <= 200; had++) {
            for (int more = 1; more <= 8; more++) {
                PluginHall hall = write(new PluginHall(), " ".repeat(had));
                due(had + " and " + more, hall.text(word("        ".substring(0, more))), had + more > 200 ? FULL : had + more);
                due("LETTERS, " + had + " and " + more, hall.count(9), had + more > 200 ? had : had + more);
            }
        }
    }

    private static void fullTextStays() {
        sentence("a TEXT of at most 200 LETTERS");
        PluginHall hall = write(new PluginHall(), " ".repeat(196));
        due("not even the first of them", hall.text(word("<a/>x")), FULL);
        due("fewer have room", hall.text(word("<a/>")), 200);
        due("no more", hall.text(' '), FULL);
        due("all that was taken is read", hall.add(0, 0), 0);
        due("all that was taken is read", hall.plugin(0, 6), 1);
        due("a new one has room", hall.text(' '), 1);
    }

    private static void neededPlugins() {
        sentence("REFUSED if q is no number of a PLUGIN");
        for (int q : NO_PLUGINS) {
            due("need " + q, new PluginHall().need(q, 0, 255), REFUSED);
        }
        for (int q = 0; q < 8; q++) {
            PluginHall hall = new PluginHall();
            due("need " + q, hall.need(q, 3, 3), 1);
            int p = (q + 1) % 8;
            hall.add(p, 1);
            due("without " + q, hall.plugin(p, 7), 1);
            hall.add(q, 3);
            due("with " + q, hall.plugin(p, 7), 0);
        }
    }

    private static void neededVersions() {
        sentence("or not 0 <= low <= high <= 255");
        int[] edges = {LEAST, -256, -1, 0, 1, 127, 128, 254, 255, 256, 511, MOST};
        for (int low : edges) {
            for (int high : edges) {
                boolean good = 0 <= low && low <= high && high <= 255;
                due("need from " + low + " to " + high, new PluginHall().need(0, low, high), good ? 1 : REFUSED);
            }
        }
    }

    private static void needsAreFull() {
        sentence("FULL if there are 3");
        PluginHall hall = new PluginHall();
        for (int n = 1; n <= 3; n++) {
            due("NEED " + n + " of how many", hall.need(n, 1, 1), n);
        }
        due("one too many", hall.need(7, 1, 1), FULL);
        due("one too many again", hall.need(1, 1, 1), FULL);
        hall.add(0, 0);
        for (int n = 1; n <= 3; n++) {
            due("NEED " + n + " is not met", hall.plugin(0, 7), n);
            hall.add(n, 1);
        }
        due("there is no fourth", hall.plugin(0, 7), 0);
        due("there is room in a new DRAFT", hall.need(1, 1, 1), 1);
    }

    private static void needsOfOneRow() {
        sentence("NEEDS, at most 3, each a PLUGIN and versions from low to high (0..255)");
        PluginHall hall = new PluginHall();
        due("one PLUGIN twice", hall.need(1, 0, 5) + hall.need(1, 5, 9), 3);
        hall.add(0, 0);
        hall.add(1, 4);
        due("both are to be met", hall.plugin(0, 7), 2);
        hall.remove(1);
        hall.add(1, 6);
        due("both are to be met", hall.plugin(0, 7), 1);
        hall.remove(1);
        hall.add(1, 5);
        due("both are met", hall.plugin(0, 7), 0);
    }

    private static void classWords() {
        sentence("REFUSED if w is no WORD");
        for (long w : new long[] {0, -1, Long.MIN_VALUE, Long.MAX_VALUE, 1, 255, word("A"), word("a b"), word("a") << 8, word("abcdefg_")}) {
            for (int kind : new int[] {0, 1, 2, 4, 5, 6}) {
                due("provide " + w + ", " + kind, new PluginHall().provide(w, kind), REFUSED);
            }
        }
    }

    private static void classKinds() {
        sentence("or kind not 0, 1, 2, 4, 5 or 6");
        for (int kind = -10; kind <= 20; kind++) {
            boolean good = kind >= 0 && kind <= 6 && kind != 3;
            due("kind " + kind, new PluginHall().provide(word("k"), kind), good ? 1 : REFUSED);
        }
        for (int kind : new int[] {LEAST, LEAST + 4, -252, 252, 256, 260, 1 << 30, MOST}) {
            due("kind " + kind, new PluginHall().provide(word("k"), kind), REFUSED);
        }
    }

    private static void classesAreFull() {
        sentence("FULL if there are 4");
        PluginHall hall = new PluginHall();
        for (int n = 1; n <= 4; n++) {
            due("CLASS " + n, hall.provide(word("k" + n), 0), n);
        }
        due("one too many", hall.provide(word("k5"), 0), FULL);
        due("one too many, there already", hall.provide(word("k1"), 0), FULL);
        install(hall, 0, 0, POINT_P + "<ext point=\"p\" a=\"k1\" b=\"k4\" c=\"k5\"/>");
        due("the first", hall.create(1, word("a")), 0);
        due("the fourth", hall.create(1, word("b")), 1);
        due("there is no fifth", hall.create(1, word("c")), NO_CLASS);
        due("there is room in a new DRAFT", hall.provide(word("k5"), 0), 1);
    }

    private static void starterKinds() {
        sentence("false if kind is not 0..2");
        for (int kind : new int[] {LEAST, -256, -2, -1, 3, 4, 5, 256, 257, MOST}) {
            due("kind " + kind, new PluginHall().starter(kind, 0), false);
            due("kind " + kind + ", asking", new PluginHall().starter(kind, word("k")), false);
        }
        int[] created = {0, 0, NOT_AWAKE};
        for (int kind = 0; kind <= 2; kind++) {
            due("kind " + kind, new PluginHall().starter(kind, 0), true);
            due("kind " + kind + ", asking", new PluginHall().starter(kind, word("k")), true);
            due("kind " + kind + " does", hallNaming("k", 0, kind, "").create(1, word("c")), created[kind]);
        }
    }

    private static void starterWords() {
        sentence("or w is neither a WORD nor 0");
        for (int kind = 0; kind <= 2; kind++) {
            for (long w : new long[] {-1, Long.MIN_VALUE, Long.MAX_VALUE, 1, 255, word("A"), word("a b"), word("a") << 8, word("abcdefg_")}) {
                due("starter " + kind + ", " + w, new PluginHall().starter(kind, w), false);
            }
            due("0, " + kind, new PluginHall().starter(kind, 0), true);
            due("a WORD of one, " + kind, new PluginHall().starter(kind, word(".")), true);
            due("a WORD of eight, " + kind, new PluginHall().starter(kind, word("zzzzzzzz")), true);
        }
    }

    private static void starterThatAsksForNothing() {
        sentence("a STARTER: 0 none (it asks for nothing)");
        due("none", hallNaming("k", 0, 0, "missing").create(1, word("c")), 0);
        due("a good one asks", hallNaming("k", 0, 1, "missing").create(1, word("c")), NOT_AWAKE);
        sentence("and a WORD that it asks for, or none (0)");
        due("a good one that asks for none", hallNaming("k", 0, 1, "").create(1, word("c")), 0);
    }

    private static void starterRefused() {
        sentence("The STARTER: true; false if");
        for (int kind : new int[] {-1, 3}) {
            PluginHall hall = new PluginHall();
            hall.provide(word("k"), 0);
            hall.starter(2, 0);
            due("refused", hall.starter(kind, 0), false);
            install(hall, 0, 1, POINT_P + "<ext point=\"p\" c=\"k\"/>");
            due("the one before stays", hall.create(1, word("c")), NOT_AWAKE);
        }
        PluginHall hall = new PluginHall();
        hall.provide(word("k"), 0);
        hall.starter(1, word("missing"));
        due("refused", hall.starter(1, word("K")), false);
        install(hall, 0, 1, POINT_P + "<ext point=\"p\" c=\"k\"/>");
        due("what it asks for stays", hall.create(1, word("c")), NOT_AWAKE);
        hall = new PluginHall();
        hall.provide(word("k"), 0);
        due("refused", hall.starter(2, word("K")), false);
        install(hall, 0, 1, POINT_P + "<ext point=\"p\" c=\"k\"/>");
        due("there is none still", hall.create(1, word("c")), 0);
    }

    private static void starterSetAgain() {
        sentence("The STARTER: true");
        PluginHall hall = new PluginHall();
        hall.provide(word("k"), 0);
        hall.starter(2, word("missing"));
        hall.starter(1, 0);
        install(hall, 0, 1, POINT_P + "<ext point=\"p\" c=\"k\"/>");
        due("the latest one counts", hall.create(1, word("c")), 0);
        hall = new PluginHall();
        hall.provide(word("k"), 0);
        hall.starter(1, word("missing"));
        hall.starter(0, 0);
        hall.starter(1, 0);
        install(hall, 0, 1, POINT_P + "<ext point=\"p\" c=\"k\"/>");
        due("it has its own WORD", hall.create(1, word("c")), 0);
    }

    private static void clearedText() {
        sentence("how many LETTERS its TEXT had");
        due("none", new PluginHall().clear(), 0);
        for (int n : new int[] {1, 2, 7, 8, 9, 127, 128, 199, 200}) {
            PluginHall hall = write(new PluginHall(), "<".repeat(n));
            due("of " + n, hall.clear(), n);
            due("there are none now", hall.count(9), 0);
            due("nor again", hall.clear(), 0);
            due("there is room for all", write(hall, " ".repeat(200)).count(9), 200);
            due("what was there is gone", hall.add(0, 0), 0);
        }
    }

    private static void clearedWiring() {
        sentence("The DRAFT is empty");
        PluginHall hall = new PluginHall();
        for (int n = 0; n < 4; n++) {
            hall.need(7, 0, 0);
            hall.provide(word("k"), 1);
        }
        due("no LETTERS", hall.clear(), 0);
        due("no NEEDS", hall.need(1, 0, 0), 1);
        due("no CLASSES", hall.provide(word("m"), 0), 1);
        hall.add(1, 0);
        install(hall, 0, 0, POINT_P);
        install(hall, 2, 0, "<ext point=\"p\" c=\"k\"/>");
        due("no NEEDS of before", hall.plugin(1, 0), 2);
        hall.remove(1);
        hall.provide(word("m"), 0);
        install(hall, 1, 0, "<ext point=\"p\" c=\"k\" d=\"m\"/>");
        due("no CLASSES of before", hall.create(16, word("c")), NO_CLASS);
        due("those of now", hall.create(16, word("d")), 0);
    }

    private static void clearedStarter() {
        sentence("(STARTER 0, asking for nothing)");
        for (int kind = 1; kind <= 2; kind++) {
            PluginHall hall = new PluginHall();
            hall.starter(kind, word("missing"));
            hall.clear();
            hall.provide(word("k"), 0);
            install(hall, 0, 1, POINT_P + "<ext point=\"p\" c=\"k\"/>");
            due("kind " + kind + " is gone", hall.create(1, word("c")), 0);
        }
    }

    private static void clearLeavesPlugins() {
        sentence("The DRAFT is empty (STARTER 0, asking for nothing)");
        PluginHall hall = hallNaming("k", 0, 1, "k");
        hall.create(1, word("c"));
        write(hall, "<a/>");
        due("LETTERS", hall.clear(), 4);
        int[] counts = {1, 1, 1, 1, 1, 1, 1, 1, 0, 0};
        for (int what = 0; what <= 9; what++) {
            due("count " + what, hall.count(what), counts[what]);
        }
        due("the PLUGIN has its own", hall.create(1, word("c")), 1);
    }
}
