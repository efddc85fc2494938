import java.util.ArrayList;
import java.util.List;

/**
 * Calls that are refused, on one of two halls that had the same calls before: they change nothing, so that whatever is
 * asked or done next, both halls answer the same. Each row of questions has two halls of its own, as one has 512 calls.
 */
public final class RefusedCallsTest extends Asking {
    private interface Scene {
        void play(PluginHall hall);
    }

    private interface Call {
        long on(PluginHall hall);
    }

    private interface Questions {
        void ask(PluginHall hall, List<Long> answers);
    }

    private static final Scene EMPTY = hall -> { };
    private static final Scene BUSY = RefusedCallsTest::playBusy;
    private static final Scene CROWDED = RefusedCallsTest::playCrowded;
    private static final Questions[] QUESTIONS = {
        RefusedCallsTest::askPlugins, RefusedCallsTest::askObjectsAndExtensions,
        (hall, answers) -> askElements(hall, answers, 0), (hall, answers) -> askElements(hall, answers, 64),
        RefusedCallsTest::askChildren, RefusedCallsTest::askAttributes, RefusedCallsTest::fillDraft,
        RefusedCallsTest::addDraft, RefusedCallsTest::clearDraft, RefusedCallsTest::removeAll,
        RefusedCallsTest::stopAll, RefusedCallsTest::createAll};

    /** The one PLUGIN, if any, whose starts a call may change. */
    private static int startsNotAsked = -1;

    public static void main(String[] args) {
        scenesAreAsTold();
        text();
        need();
        provide();
        starter();
        add();
        remove();
        plugin();
        extensions();
        element();
        create();
        createThatDoesNotWake();
        histories();
        answersChangeNothing();
        end();
    }

    /** Two PLUGINS are ACTIVE, one fails, one has a FAULT and is not RESOLVED; three objects; a DRAFT that has some of all. */
    private static void playBusy(PluginHall hall) {
        hall.provide(word("k"), 0);
        hall.starter(1, 0);
        install(hall, 0, 1, POINT_P + "<ext point=\"p\" c=\"k\"/>");
        hall.need(0, 1, 9);
        hall.provide(word("m"), 0);
        hall.provide(word("bad"), 1);
        hall.provide(word("odd"), 2);
        hall.starter(1, word("k"));
        install(hall, 2, 2, "<ext point=\"p\" c=\"m\" d=\"\" e=\"missing\"><b c=\"bad\" d=\"odd\"/></ext><x c=\"m\"/>");
        hall.provide(word("s"), 0);
        hall.starter(2, 0);
        install(hall, 4, 3, "<ext point=\"p\" c=\"s\"/>");
        hall.need(7, 0, 0);
        install(hall, 5, 255, "\n<a");
        hall.create(1, word("c"));
        hall.create(32, word("c"));
        hall.shutdown();
        hall.create(33, word("c"));
        hall.create(32, word("c"));
        install(hall, 6, 0, "<ext point=\"p\"/>");
        hall.remove(6);
        hall.need(0, 0, 9);
        hall.provide(word("n"), 0);
        hall.starter(1, word("k"));
        write(hall, "<ext point=\"p\" c=\"n\" d=\"k\"/>");
    }

    /** As many objects as there may be, and a DRAFT without room. */
    private static void playCrowded(PluginHall hall) {
        hall.provide(word("k"), 0);
        install(hall, 0, 1, POINT_P + "<ext point=\"p\" c=\"k\"/>");
        for (int n = 0; n < 24; n++) {
            hall.create(1, word("c"));
        }
        for (int n = 0; n < 3; n++) {
            hall.need(0, n, 9 - n);
        }
        for (int n = 0; n < 4; n++) {
            hall.provide(word("n"), 4 + n % 3);
        }
        hall.starter(2, word("k"));
        write(hall, " ".repeat(172) + "<ext point=\"p\" c=\"n\" d=\"k\"/>");
    }

    private static void askPlugins(PluginHall hall, List<Long> answers) {
        for (int p = 0; p < 8; p++) {
            for (int what = 0; what < 8; what++) {
                if (what != 5 || p != startsNotAsked) {
                    answers.add((long) hall.plugin(p, what));
                }
            }
        }
        askCounts(hall, answers);
    }

    private static void askCounts(PluginHall hall, List<Long> answers) {
        for (int what = 0; what < 10; what++) {
            answers.add((long) hall.count(what));
        }
        for (int k = 0; k <= 32; k++) {
            answers.add((long) hall.event(k));
        }
        for (int k = 0; k <= 16; k++) {
            answers.add((long) hall.stopped(k));
        }
    }

    private static void askObjectsAndExtensions(PluginHall hall, List<Long> answers) {
        for (int n = 0; n <= 24; n++) {
            for (int what = 0; what < 3; what++) {
                answers.add((long) hall.object(n, what));
            }
        }
        for (String point : new String[] {"p", "q", "k", "n"}) {
            answers.add((long) hall.extensions(word(point)));
            for (int k = 0; k < 8; k++) {
                answers.add((long) hall.extension(word(point), k));
            }
        }
    }

    private static void askElements(PluginHall hall, List<Long> answers, int from) {
        for (int handle = from; handle < from + 64; handle++) {
            for (int what = 0; what < 5; what++) {
                answers.add((long) hall.element(handle, what));
            }
        }
    }

    private static void askChildren(PluginHall hall, List<Long> answers) {
        for (int handle = 0; handle < 128; handle++) {
            answers.add(hall.name(handle));
            answers.add((long) hall.child(handle, 0));
            answers.add((long) hall.child(handle, 1));
        }
    }

    private static void askAttributes(PluginHall hall, List<Long> answers) {
        for (int handle = 0; handle < 128; handle++) {
            answers.add(hall.attribute(handle, word("c")));
            answers.add(hall.attribute(handle, word("d")));
            answers.add(hall.attribute(handle, word("point")));
        }
    }

    private static void fillDraft(PluginHall hall, List<Long> answers) {
        for (int n = 0; n < 5; n++) {
            answers.add((long) hall.need(3, 0, 9));
            answers.add((long) hall.provide(word("last"), 0));
            answers.add((long) hall.text(' '));
        }
        hall.starter(1, 0);
        addDraft(hall, answers);
    }

    /** What is added shows what the DRAFT had: its TEXT, its NEEDS, its CLASSES, and by making them its STARTER. */
    private static void addDraft(PluginHall hall, List<Long> answers) {
        answers.add((long) hall.add(3, 7));
        askPlugins(hall, answers);
        for (int handle = 48; handle < 52; handle++) {
            answers.add(hall.name(handle));
            answers.add(hall.attribute(handle, word("c")));
            answers.add((long) hall.create(handle, word("c")));
            answers.add((long) hall.create(handle, word("d")));
        }
        askPlugins(hall, answers);
        askObjectsAndExtensions(hall, answers);
    }

    private static void clearDraft(PluginHall hall, List<Long> answers) {
        answers.add((long) hall.clear());
        addDraft(hall, answers);
    }

    private static void removeAll(PluginHall hall, List<Long> answers) {
        for (int p = 7; p >= 0; p--) {
            answers.add((long) hall.remove(p));
            answers.add((long) hall.event(0));
            answers.add((long) hall.stopped(0));
        }
        askPlugins(hall, answers);
        askObjectsAndExtensions(hall, answers);
    }

    private static void stopAll(PluginHall hall, List<Long> answers) {
        answers.add((long) hall.shutdown());
        askPlugins(hall, answers);
        createAll(hall, answers);
    }

    private static void createAll(PluginHall hall, List<Long> answers) {
        for (int handle = 0; handle < 70; handle++) {
            answers.add((long) hall.create(handle, word("c")));
        }
        askPlugins(hall, answers);
        askObjectsAndExtensions(hall, answers);
    }

    private static void changesNothing(String told, long want, Call call, Scene... scenes) {
        for (Scene scene : scenes) {
            for (int row = 0; row < QUESTIONS.length; row++) {
                PluginHall plain = new PluginHall();
                PluginHall tried = new PluginHall();
                scene.play(plain);
                scene.play(tried);
                due(told, call.on(tried), want);
                due(told + " again", call.on(tried), want);
                compare(told, row, plain, tried);
            }
        }
    }

    private static void compare(String told, int row, PluginHall plain, PluginHall tried) {
        List<Long> before = new ArrayList<>();
        List<Long> behind = new ArrayList<>();
        QUESTIONS[row].ask(plain, before);
        QUESTIONS[row].ask(tried, behind);
        for (int i = 0; i < before.size(); i++) {
            due("behind " + told + ", answer " + i + " of row " + row, behind.get(i), before.get(i));
        }
    }

    private static void scenesAreAsTold() {
        sentence("How many, what 0: installed");
        PluginHall hall = new PluginHall();
        BUSY.play(hall);
        int[] busy = {4, 3, 2, 3, 1, 3, 3, 5, 2, 28};
        for (int what = 0; what < 10; what++) {
            due("busy, count " + what, hall.count(what), busy[what]);
        }
        hall = new PluginHall();
        CROWDED.play(hall);
        int[] crowded = {1, 1, 1, 1, 1, 24, 24, 1, 0, 200};
        for (int what = 0; what < 10; what++) {
            due("crowded, count " + what, hall.count(what), crowded[what]);
        }
    }

    private static void text() {
        sentence("REFUSED if the lowest octet is 0, or one before the first 0 is above 127");
        for (long w : new long[] {0, -1, 128, 'a' << 8, word("a") | 128 << 8, word("aaaaaaa") | 128L << 56}) {
            changesNothing("text " + w, REFUSED, hall -> hall.text(w), EMPTY, BUSY);
        }
        sentence("FULL if there would be more than 200");
        changesNothing("text", FULL, hall -> hall.text(' '), CROWDED);
        changesNothing("text", FULL, hall -> hall.text(word("        ")), CROWDED);
        changesNothing("text", FULL, hall -> hall.text(word("        ")), hall -> write(hall, " ".repeat(193)));
    }

    private static void need() {
        sentence("REFUSED if q is no number of a PLUGIN, or not 0 <= low <= high <= 255");
        int[][] bad = {{-1, 0, 0}, {8, 0, 0}, {LEAST, 0, 0}, {MOST, 0, 0}, {7, -1, 0}, {7, 0, 256}, {7, 2, 1}, {7, LEAST, MOST}};
        for (int[] each : bad) {
            changesNothing("need " + each[0] + ", " + each[1] + ", " + each[2], REFUSED,
                hall -> hall.need(each[0], each[1], each[2]), EMPTY, BUSY);
        }
        sentence("FULL if there are 3");
        changesNothing("need", FULL, hall -> hall.need(7, 5, 5), CROWDED);
    }

    private static void provide() {
        sentence("REFUSED if w is no WORD, or kind not 0, 1, 2, 4, 5 or 6");
        for (long w : new long[] {0, -1, word("A"), word("k") << 8, word("k") | word("k") << 16}) {
            changesNothing("provide " + w, REFUSED, hall -> hall.provide(w, 0), EMPTY, BUSY);
        }
        for (int kind : new int[] {LEAST, -1, 3, 7, MOST}) {
            changesNothing("provide, kind " + kind, REFUSED, hall -> hall.provide(word("k"), kind), EMPTY, BUSY);
        }
        sentence("FULL if there are 4");
        changesNothing("provide", FULL, hall -> hall.provide(word("k"), 0), CROWDED);
    }

    private static void starter() {
        sentence("false if kind is not 0..2, or w is neither a WORD nor 0");
        for (int kind : new int[] {LEAST, -1, 3, MOST}) {
            changesNothing("starter " + kind, 0, hall -> hall.starter(kind, 0) ? 1 : 0, EMPTY, BUSY, CROWDED);
            changesNothing("starter " + kind, 0, hall -> hall.starter(kind, word("n")) ? 1 : 0, EMPTY, BUSY, CROWDED);
        }
        for (long w : new long[] {-1, 1, word("A"), word("k") << 8}) {
            for (int kind = 0; kind <= 2; kind++) {
                int given = kind;
                changesNothing("starter " + kind + ", " + w, 0, hall -> hall.starter(given, w) ? 1 : 0, EMPTY, BUSY, CROWDED);
            }
        }
    }

    private static void add() {
        sentence("REFUSED if a number is out of range; EXISTS if it is installed");
        for (int p : new int[] {LEAST, -1, 8, MOST}) {
            changesNothing("add " + p, REFUSED, hall -> hall.add(p, 1), EMPTY, BUSY, CROWDED);
        }
        for (int version : new int[] {LEAST, -1, 256, MOST}) {
            changesNothing("add of version " + version, REFUSED, hall -> hall.add(3, version), EMPTY, BUSY, CROWDED);
        }
        for (int p : new int[] {0, 2, 4, 5}) {
            changesNothing("add " + p, EXISTS, hall -> hall.add(p, 100), BUSY);
        }
        changesNothing("add 0", EXISTS, hall -> hall.add(0, 1), CROWDED);
    }

    private static void remove() {
        sentence("REFUSED if it is not installed");
        for (int p : new int[] {LEAST, -1, 1, 3, 6, 7, 8, MOST}) {
            changesNothing("remove " + p, REFUSED, hall -> hall.remove(p), EMPTY, BUSY, CROWDED);
        }
    }

    private static void plugin() {
        sentence("0 for 1..7 if it is not installed; REFUSED for others");
        changesNothing("plugin 1, 3", 0, hall -> hall.plugin(1, 3), EMPTY, BUSY);
        changesNothing("plugin 0, 8", REFUSED, hall -> hall.plugin(0, 8), EMPTY, BUSY);
        changesNothing("plugin 8, 0", REFUSED, hall -> hall.plugin(8, 0), EMPTY, BUSY);
        changesNothing("plugin -1, -1", REFUSED, hall -> hall.plugin(-1, -1), EMPTY, BUSY);
    }

    private static void extensions() {
        sentence("How many EXTENSIONS the POINT of this WORD has; REFUSED if there is none");
        for (long point : new long[] {0, -1, word("q")}) {
            changesNothing("extensions " + point, REFUSED, hall -> hall.extensions(point), EMPTY, BUSY);
            changesNothing("extension " + point, REFUSED, hall -> hall.extension(point, 0), EMPTY, BUSY);
        }
        sentence("The k-th of them (0 first, by HANDLES); REFUSED if there is none");
        for (int k : new int[] {LEAST, -1, 3, MOST}) {
            changesNothing("extension " + k, REFUSED, hall -> hall.extension(word("p"), k), EMPTY, BUSY);
        }
    }

    private static void element() {
        sentence("REFUSED for others");
        for (int handle : new int[] {LEAST, -1, 2, 16, 35, 80, 128, MOST}) {
            changesNothing("element " + handle, REFUSED, hall -> hall.element(handle, 0), EMPTY, BUSY);
            changesNothing("name " + handle, 0, hall -> hall.name(handle), EMPTY, BUSY);
            changesNothing("child " + handle, REFUSED, hall -> hall.child(handle, 0), EMPTY, BUSY);
            changesNothing("attribute " + handle, -1, hall -> hall.attribute(handle, word("c")), EMPTY, BUSY);
        }
        changesNothing("element 0, 5", REFUSED, hall -> hall.element(0, 5), EMPTY, BUSY);
        changesNothing("element 0, -1", REFUSED, hall -> hall.element(0, -1), EMPTY, BUSY);
        changesNothing("child 32, 1", REFUSED, hall -> hall.child(32, 1), EMPTY, BUSY);
        changesNothing("child 32, -1", REFUSED, hall -> hall.child(32, -1), EMPTY, BUSY);
        changesNothing("attribute 0, c", -1, hall -> hall.attribute(0, word("c")), EMPTY, BUSY);
        changesNothing("attribute 32, d", 0, hall -> hall.attribute(32, word("d")), BUSY);
    }

    private static void create() {
        sentence("Of an ELEMENT that is an EXTENSION, or in one (else REFUSED)");
        for (int handle : new int[] {LEAST, -1, 0, 2, 34, 80, 128, MOST}) {
            changesNothing("create " + handle, REFUSED, hall -> hall.create(handle, word("c")), EMPTY, BUSY, CROWDED);
        }
        Scene asleep = hall -> {
            BUSY.play(hall);
            hall.shutdown();
        };
        sentence("its ATTRIBUTE of that NAME must have a WORD (else NO_NAME)");
        changesNothing("create 32, d", NO_NAME, hall -> hall.create(32, word("d")), BUSY, asleep);
        changesNothing("create 33, e", NO_NAME, hall -> hall.create(33, word("e")), BUSY, asleep);
        changesNothing("create 1, 0", NO_NAME, hall -> hall.create(1, 0), BUSY, asleep, CROWDED);
        sentence("for which its PLUGIN LOOKS (NO_CLASS if there is none)");
        changesNothing("create 32, e", NO_CLASS, hall -> hall.create(32, word("e")), BUSY, asleep);
        changesNothing("create 1, point", NO_CLASS, hall -> hall.create(1, word("point")), BUSY, asleep, CROWDED);
        sentence("What create answers where nothing is made");
        changesNothing("create 33, c", BROKEN, hall -> hall.create(33, word("c")), BUSY);
        changesNothing("create 33, d", OTHER_TYPE, hall -> hall.create(33, word("d")), BUSY);
        sentence("FULL if 24 objects were made");
        changesNothing("create 1, c", FULL, hall -> hall.create(1, word("c")), CROWDED);
    }

    private static void createThatDoesNotWake() {
        sentence("it did not wake, and is only RESOLVED again");
        PluginHall hall = new PluginHall();
        BUSY.play(hall);
        for (int n = 0; n < 3; n++) {
            due("STARTING", hall.plugin(4, 5), n);
            due("create 64, c", hall.create(64, word("c")), NOT_AWAKE);
        }
        startsNotAsked = 4;
        changesNothing("create 64, c", NOT_AWAKE, each -> each.create(64, word("c")), BUSY);
        startsNotAsked = -1;
    }

    private static void histories() {
        sentence("REFUSED if there is none");
        for (int k : new int[] {LEAST, -1, 5, 32, MOST}) {
            changesNothing("event " + k, REFUSED, hall -> hall.event(k), EMPTY, BUSY);
            changesNothing("stopped " + k, REFUSED, hall -> hall.stopped(k), EMPTY, BUSY);
        }
        sentence("REFUSED for others");
        for (int bad : new int[] {LEAST, -1, 24, MOST}) {
            changesNothing("object " + bad, REFUSED, hall -> hall.object(bad, 2), EMPTY, BUSY, CROWDED);
            changesNothing("object 0, " + bad, REFUSED, hall -> hall.object(0, bad), EMPTY, BUSY, CROWDED);
            changesNothing("count " + bad, REFUSED, hall -> hall.count(bad), EMPTY, BUSY);
        }
        changesNothing("count 10", REFUSED, hall -> hall.count(10), EMPTY, BUSY);
    }

    /** No rows of questions change one another: asked twice, each answers the same. */
    private static void answersChangeNothing() {
        sentence("asked for without any code");
        for (Scene scene : new Scene[] {EMPTY, BUSY, CROWDED}) {
            for (int row = 0; row < 2; row++) {
                PluginHall hall = new PluginHall();
                scene.play(hall);
                compare("the same row", row, hall, hall);
            }
        }
        changesNothing("clear of none", 0, hall -> hall.clear(), EMPTY);
        changesNothing("shutdown of none", 0, hall -> hall.shutdown(), EMPTY);
    }
}
