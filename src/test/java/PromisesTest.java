/** Each promise by hand: ordinary calls, the edges that the document names, wrong inputs. */
public final class PromisesTest extends Asking {
    public static void main(String[] args) {
        newObject();
        text();
        need();
        provide();
        starter();
        clear();
        add();
        faults();
        faultsAtLimits();
        nothingStale();
        remove();
        plugin();
        resolved();
        extensions();
        items();
        extension();
        element();
        name();
        child();
        attribute();
        create();
        lookingFor();
        waking();
        object();
        event();
        shutdown();
        stopped();
        count();
        end();
    }

    private static void newObject() {
        PluginHall hall = new PluginHall();
        for (int what = 0; what <= 9; what++) {
            due("1: count " + what, hall.count(what), 0);
        }
        for (int p = 0; p < 8; p++) {
            due("1: plugin " + p, hall.plugin(p, 0), 0);
        }
        due("1: clear", hall.clear(), 0);
        due("1: event", hall.event(0), REFUSED);
        due("1: stopped", hall.stopped(0), REFUSED);
        due("1: object", hall.object(0, 0), REFUSED);
        due("1: shutdown", hall.shutdown(), 0);
        due("1: the empty TEXT is WHOLE", hall.add(0, 0), 0);
        due("1: no NEEDS, so RESOLVED", hall.plugin(0, 0), 2);
    }

    private static void text() {
        PluginHall hall = new PluginHall();
        due("2: nothing", hall.text(0), REFUSED);
        due("2: lowest octet 0", hall.text(0x6100L), REFUSED);
        due("2: above 127", hall.text(0x80L), REFUSED);
        due("2: later above 127", hall.text(0xff61L), REFUSED);
        due("2: highest above 127", hall.text(0x8061616161616161L), REFUSED);
        due("2: all ones", hall.text(-1L), REFUSED);
        due("2: nothing was taken", hall.count(9), 0);
        due("2: one", hall.text(1), 1);
        due("2: 127", hall.text(127), 2);
        due("2: behind the first 0 all is free", hall.text(0xff80ff8000616161L), 5);
        due("2: eight", hall.text(0x7f7f7f7f7f7f7f7fL), 13);
        for (int i = 0; i < 23; i++) {
            hall.text(word("aaaaaaaa"));
        }
        due("2: letters", hall.count(9), 197);
        due("2: four more", hall.text(word("aaaa")), FULL);
        due("2: REFUSED before FULL", hall.text(word("aaaa") | 0x80L << 32), REFUSED);
        due("2: three more", hall.text(word("aaa")), 200);
        due("2: one more", hall.text(word("a")), FULL);
        due("2: nothing more", hall.text(0), REFUSED);
        due("2: letters", hall.count(9), 200);
    }

    private static void need() {
        PluginHall hall = new PluginHall();
        due("3: q below", hall.need(-1, 0, 0), REFUSED);
        due("3: q above", hall.need(8, 0, 0), REFUSED);
        due("3: low below", hall.need(0, -1, 0), REFUSED);
        due("3: high above", hall.need(0, 0, 256), REFUSED);
        due("3: low above high", hall.need(0, 2, 1), REFUSED);
        due("3: first", hall.need(0, 0, 0), 1);
        due("3: second", hall.need(7, 255, 255), 2);
        due("3: third, the same again", hall.need(7, 0, 255), 3);
        due("3: fourth", hall.need(1, 0, 255), FULL);
        due("3: REFUSED before FULL", hall.need(8, 0, 255), REFUSED);
        hall.add(7, 255);
        due("3: q 0 is missing", hall.plugin(7, 7), 1);
        hall.add(0, 0);
        due("3: all met", hall.plugin(7, 7), 0);
        due("3: the DRAFT is empty", hall.need(0, 0, 0), 1);
    }

    private static void provide() {
        PluginHall hall = new PluginHall();
        due("4: no WORD", hall.provide(0, 0), REFUSED);
        due("4: capital", hall.provide(word("A"), 0), REFUSED);
        due("4: before 0", hall.provide(word("/"), 0), REFUSED);
        due("4: behind 9", hall.provide(word(":"), 0), REFUSED);
        due("4: before a", hall.provide(word("`"), 0), REFUSED);
        due("4: behind z", hall.provide(word("{"), 0), REFUSED);
        due("4: before .", hall.provide(word("-"), 0), REFUSED);
        due("4: no first letter", hall.provide(word("a") << 8, 0), REFUSED);
        due("4: something behind a zero", hall.provide(word("a") | word("a") << 16, 0), REFUSED);
        due("4: last letter is none", hall.provide(word("aaaaaaa "), 0), REFUSED);
        due("4: below 0", hall.provide(-1L, 0), REFUSED);
        for (int kind : new int[] {-4, -1, 3, 7, 8, Integer.MAX_VALUE, Integer.MIN_VALUE}) {
            due("4: kind " + kind, hall.provide(word("a"), kind), REFUSED);
        }
        due("4: kind 0", hall.provide(word("a"), 0), 1);
        due("4: kind 1", hall.provide(word("z09.zzz9"), 1), 2);
        due("4: kind 2", hall.provide(word("."), 2), 3);
        due("4: the same again", hall.provide(word("a"), 4), 4);
        due("4: fifth", hall.provide(word("b"), 0), FULL);
        due("4: REFUSED before FULL", hall.provide(word("b"), 3), REFUSED);
        hall.clear();
        due("4: kind 5", hall.provide(word("0"), 5), 1);
        due("4: kind 6", hall.provide(word("9"), 6), 2);
    }

    private static void starter() {
        PluginHall hall = new PluginHall();
        due("5: kind below", hall.starter(-1, 0), false);
        due("5: kind above", hall.starter(3, 0), false);
        due("5: no WORD", hall.starter(1, word("A")), false);
        due("5: no WORD for none", hall.starter(0, word("A")), false);
        due("5: a zero first", hall.starter(1, 0x6100L), false);
        for (int kind = 0; kind <= 2; kind++) {
            due("5: kind " + kind, hall.starter(kind, 0), true);
            due("5: asking, kind " + kind, hall.starter(kind, word("abc.1234")), true);
        }
        hall = hallNaming("k", 0, 0, "missing");
        due("5: none asks for nothing", hall.create(1, word("c")), 0);
        due("5: and the PLUGIN is ACTIVE", hall.plugin(0, 0), 3);
        hall = new PluginHall();
        hall.provide(word("k"), 0);
        hall.starter(2, 0);
        due("5: refused", hall.starter(5, 0), false);
        install(hall, 0, 1, POINT_P + "<ext point=\"p\" c=\"k\"/>");
        due("5: a refused one changes nothing", hall.create(1, word("c")), NOT_AWAKE);
        hall = new PluginHall();
        hall.provide(word("k"), 0);
        hall.starter(2, 0);
        hall.starter(1, 0);
        install(hall, 0, 1, POINT_P + "<ext point=\"p\" c=\"k\"/>");
        due("5: the later one counts", hall.create(1, word("c")), 0);
    }

    private static void clear() {
        PluginHall hall = write(new PluginHall(), "<a");
        hall.need(1, 0, 0);
        hall.provide(word("k"), 1);
        hall.starter(2, word("q"));
        due("6: letters", hall.clear(), 2);
        due("6: again", hall.clear(), 0);
        hall.provide(word("k"), 0);
        due("6: the TEXT was empty", install(hall, 0, 1, POINT_P + "<ext point=\"p\" c=\"k\"/>"), 0);
        due("6: no NEEDS", hall.plugin(0, 0), 2);
        due("6: the CLASS is gone, the STARTER too", hall.create(1, word("c")), 0);
        due("6: PLUGINS stay", hall.clear() + hall.count(0), 1);
    }

    private static void add() {
        PluginHall hall = write(new PluginHall(), "<a/>");
        due("7: p below", hall.add(-1, 0), REFUSED);
        due("7: p above", hall.add(8, 0), REFUSED);
        due("7: version below", hall.add(0, -1), REFUSED);
        due("7: version above", hall.add(0, 256), REFUSED);
        due("7: the DRAFT stays", hall.count(9), 4);
        due("7: added", hall.add(7, 255), 0);
        due("7: the DRAFT is empty", hall.count(9), 0);
        due("7: ELEMENTS", hall.plugin(7, 6), 1);
        write(hall, "<b/");
        hall.provide(word("k"), 0);
        due("7: EXISTS", hall.add(7, 0), EXISTS);
        due("7: REFUSED before EXISTS", hall.add(7, 256), REFUSED);
        due("7: the DRAFT stays", hall.count(9), 3);
        due("7: a FAULT", hall.add(0, 0), 1);
        due("7: it has no ELEMENTS", hall.plugin(0, 6), 0);
        due("7: it is RESOLVED all the same", hall.plugin(0, 0), 2);
        due("7: version stays", hall.plugin(7, 1), 255);
    }

    private static void fault(String text, int place, int line) {
        PluginHall hall = new PluginHall();
        String told = "7: " + text.replace("\n", "\\n");
        due(told, install(hall, 3, 0, text), place < 0 ? 0 : 1);
        due(told + ": 2", hall.plugin(3, 2), place < 0 ? 0 : 1);
        due(told + ": 3", hall.plugin(3, 3), place);
        due(told + ": 4", hall.plugin(3, 4), line);
    }

    private static void whole(String text) {
        fault(text, -1, -1);
    }

    private static void faults() {
        whole("");
        whole(" \n ");
        whole("<a/>");
        whole(" <a/>\n<b/> ");
        whole("<a></a>");
        whole("<a> \n<b/> <c/>\n</a \n >");
        whole("<a />");
        whole("<a \n x=\"\"\n y=\"1\" />");
        whole("<a x=\"1\"></a>");
        whole("<abcdefgh a=\"z09.zzzz\"/>");
        fault("x", 0, 1);
        fault("\n\nx\n", 2, 3);
        fault("<", 1, 1);
        fault("\n<\n", 2, 2);
        fault("<>", 1, 1);
        fault("< a/>", 1, 1);
        fault("<A/>", 1, 1);
        fault("<a1/>", 2, 1);
        fault("</a>", 1, 1);
        fault("<a/", 3, 1);
        fault("<a/ >", 3, 1);
        fault("<a/>x", 4, 1);
        fault("<a", 2, 1);
        fault("<a>", 3, 1);
        fault("<a>\n", 4, 2);
        fault("<a>\n\n<", 6, 3);
        fault("<a>x</a>", 3, 1);
        fault("<a></", 5, 1);
        fault("<a></ a>", 5, 1);
        fault("<a></b>", 5, 1);
        fault("<ab></a>", 7, 1);
        fault("<a></ab>", 6, 1);
        fault("<a></a", 6, 1);
        fault("<a></a \n", 8, 2);
        fault("<a></a a>", 7, 1);
        fault("<abcdefgh></abcdefghi>", 20, 1);
        fault("<a></a/>", 6, 1);
        fault("<a><b></a></b>", 8, 1);
        fault("<a x/>", 4, 1);
        fault("<a x =\"\"/>", 4, 1);
        fault("<a x= \"\"/>", 5, 1);
        fault("<a x=1/>", 5, 1);
        fault("<a x=\"A\"/>", 6, 1);
        fault("<a x=\" \"/>", 6, 1);
        fault("<a x=\"\"y=\"\"/>", 7, 1);
        fault("<a x=\"", 6, 1);
        fault("<a x=\"1", 7, 1);
        fault("<a x=\"1\"", 8, 1);
        fault("<a\tx=\"1\"/>", 2, 1);
        fault("<a 1=\"1\"/>", 3, 1);
        fault("<a\n\n=", 4, 3);
    }

    private static void faultsAtLimits() {
        fault("<abcdefghi/>", 9, 1);
        fault("<a abcdefghi=\"\"/>", 11, 1);
        fault("<a x=\"123456789\"/>", 14, 1);
        whole("<a b=\"\" c=\"\" d=\"\" e=\"\"/>");
        whole("<a b=\"\" c=\"\" d=\"\" e=\"\" ></a>");
        fault("<a b=\"\" c=\"\" d=\"\" e=\"\" f=\"\"/>", 23, 1);
        fault("<a b=\"\" b=\"\"/>", 9, 1);
        whole("<a b=\"\" bb=\"\"/>");
        fault("<a b=\"\" c=\"\" b=\"\"/>", 14, 1);
        fault("<a abcdefgh=\"\" abcdefgh=\"\"/>", 22, 1);
        whole("<a abcdefgh=\"\" abcdefgi=\"\"/>");
        whole("<a abcdefg=\"\" abcdefgh=\"\"/>");
        whole("<a><b b=\"\"/><b b=\"\"/></a>");
        whole("<a><b><c><d></d></c></b></a>");
        fault("<a><b><c><d><e/></d></c></b></a>", 13, 1);
        fault("<a><b><c><d> <", 14, 1);
        fault("<a><b><c><d/><d><", 17, 1);
        whole("<a/>".repeat(16));
        whole("<a/>".repeat(16) + " \n");
        fault("<a/>".repeat(16) + "<b/>", 64, 1);
        fault("<a/>".repeat(16) + "\n<", 65, 2);
        whole("<a>" + "<a/>".repeat(15) + "</a>");
        fault("<a>" + "<a/>".repeat(15) + "<a/></a>", 64, 1);
        fault("<a>" + "<a/>".repeat(15) + "</a><", 67, 1);
        fault("<a/>".repeat(15) + "<a><", 64, 1);
        fault("<a/>".repeat(15) + "<a><b", 64, 1);
        fault(" ".repeat(199) + "<", 200, 1);
        fault("\n".repeat(200), -1, -1);
    }

    private static void remove() {
        PluginHall hall = new PluginHall();
        due("8: p below", hall.remove(-1), REFUSED);
        due("8: p above", hall.remove(8), REFUSED);
        due("8: not installed", hall.remove(0), REFUSED);
        hall.add(0, 0);
        due("8: no EVENTS", hall.remove(0), 0);
        due("8: twice", hall.remove(0), REFUSED);
        hall.provide(word("k"), 0);
        install(hall, 4, 1, "<point id=\"p\"/><ext point=\"p\" c=\"k\"/>");
        for (int p : new int[] {6, 2, 5}) {
            hall.need(p == 2 ? 6 : 4, 0, 9);
            hall.provide(word("own" + p), 0);
            install(hall, p, 1, "<ext point=\"p\" c=\"own" + p + "\"/>");
        }
        due("8: all four", hall.extensions(word("p")), 4);
        due("8: made", hall.create(16 * 6, word("c")), 0);
        due("8: made", hall.create(16 * 2, word("c")), 1);
        due("8: made", hall.create(65, word("c")), 2);
        due("8: EVENTS", hall.remove(4), 4);
        due("8: it is gone", hall.plugin(4, 0), 0);
        due("8: stops", hall.count(8), 3);
        due("8: it first", hall.stopped(2), 4);
        due("8: then by numbers", hall.stopped(1), 2);
        due("8: then by numbers", hall.stopped(0), 6);
        due("8: one that was not ACTIVE", hall.plugin(5, 0), 1);
        due("8: one that was", hall.plugin(6, 0), 1);
        due("8: dropped", hall.count(6), 0);
        for (int k = 0; k < 4; k++) {
            due("8: EVENTS by HANDLES", hall.event(k), new int[] {96, 80, 65, 32}[k]);
        }
        hall = hallNaming("k", 0, 0, "");
        hall.add(1, 0);
        hall.create(1, word("c"));
        due("8: another one", hall.remove(1), 0);
        due("8: those that stay RESOLVED stay ACTIVE", hall.plugin(0, 0), 3);
        due("8: nor are their objects dropped", hall.object(0, 2), 1);
        due("8: and none was stopped", hall.count(8), 0);
    }

    private static void plugin() {
        PluginHall hall = new PluginHall();
        for (int what = 0; what <= 7; what++) {
            due("9: not installed, " + what, hall.plugin(3, what), 0);
        }
        for (int what : new int[] {-1, 8, Integer.MAX_VALUE, Integer.MIN_VALUE}) {
            due("9: no such what " + what, hall.plugin(3, what), REFUSED);
            due("9: no such PLUGIN " + what, hall.plugin(what, 0), REFUSED);
        }
        hall.need(4, 2, 3);
        install(hall, 3, 17, "<a><b/></a>");
        int[] first = {1, 17, 0, -1, -1, 0, 2, 1};
        for (int what = 0; what <= 7; what++) {
            due("9: alone, " + what, hall.plugin(3, what), first[what]);
        }
        due("9: no such what", hall.plugin(3, 8), REFUSED);
        install(hall, 4, 2, "\n<a>\n<b></a>");
        int[] second = {2, 2, 1, 10, 3, 0, 0, 0};
        for (int what = 0; what <= 7; what++) {
            due("9: with a FAULT, " + what, hall.plugin(4, what), second[what]);
        }
        due("9: met now", hall.plugin(3, 7), 0);
        due("9: RESOLVED", hall.plugin(3, 0), 2);
        hall.remove(4);
        hall.add(4, 4);
        due("9: a version too high", hall.plugin(3, 7), 1);
        hall.remove(4);
        hall.add(4, 1);
        due("9: a version too low", hall.plugin(3, 7), 1);
        hall.remove(4);
        hall.add(4, 3);
        due("9: the highest version", hall.plugin(3, 7), 0);
        hall.remove(4);
        for (int what = 0; what <= 7; what++) {
            due("9: removed, " + what, hall.plugin(4, what), 0);
        }
        hall = hallNaming("k", 0, 2, "");
        hall.create(1, word("c"));
        hall.create(1, word("c"));
        due("9: STARTING twice", hall.plugin(0, 5), 2);
        due("9: but only RESOLVED", hall.plugin(0, 0), 2);
        hall.remove(0);
        hall.add(0, 1);
        due("9: counted since it was added", hall.plugin(0, 5), 0);
    }

    private static void resolved() {
        PluginHall hall = new PluginHall();
        hall.need(1, 0, 9);
        hall.add(0, 1);
        hall.need(2, 0, 9);
        hall.add(1, 1);
        hall.need(0, 0, 9);
        hall.need(3, 5, 5);
        hall.add(2, 1);
        due("9: the ring lacks one", hall.count(1), 0);
        due("9: each says its own", hall.plugin(0, 7), 1);
        due("9: a ring is not met while it is not RESOLVED", hall.plugin(2, 7), 1);
        hall.add(3, 5);
        due("9: the ring is RESOLVED", hall.count(1), 4);
        due("9: all met", hall.plugin(2, 7), 0);
        hall.remove(3);
        due("9: the whole ring falls", hall.count(1), 0);
        hall = new PluginHall();
        hall.add(1, 3);
        hall.need(1, 3, 3);
        hall.need(1, 4, 4);
        hall.add(0, 0);
        due("9: the second one", hall.plugin(0, 7), 2);
        hall.need(4, 7, 7);
        hall.add(4, 7);
        due("9: it needs itself", hall.plugin(4, 0), 2);
        hall.need(5, 7, 7);
        hall.add(5, 6);
        due("9: it needs itself, of another version", hall.plugin(5, 0), 1);
    }

    private static void extensions() {
        PluginHall hall = new PluginHall();
        due("10: no POINT", hall.extensions(word("p")), REFUSED);
        due("10: no WORD", hall.extensions(0), REFUSED);
        due("10: no WORD", hall.extensions(-1), REFUSED);
        install(hall, 5, 1, "<ext point=\"p\"/><ext point=\"q\"/><ext point=\"\"/><ext/>");
        due("10: no POINT yet", hall.extensions(word("p")), REFUSED);
        due("10: no EXTENSION yet", hall.count(3), 0);
        install(hall, 6, 1, "<point id=\"\"/><point/><a><point id=\"q\"/></a><point id=\"p\"/><point id=\"p\"/>");
        due("10: one", hall.extensions(word("p")), 1);
        due("10: a POINT is of DEPTH 1", hall.extensions(word("q")), REFUSED);
        due("10: nothing is no WORD", hall.extensions(0), REFUSED);
        due("10: no ATTRIBUTE is no WORD", hall.extensions(-1), REFUSED);
        due("10: one POINT of a WORD", hall.count(4), 1);
        install(hall, 0, 1, "<a><ext point=\"p\"/></a><exts point=\"p\"/><ext id=\"p\"/><points id=\"r\"/>");
        due("10: an EXTENSION is of DEPTH 1", hall.extensions(word("p")), 1);
        due("10: a POINT is named point", hall.extensions(word("r")), REFUSED);
        hall.need(2, 0, 0);
        install(hall, 1, 1, "<point id=\"z\"/><ext point=\"p\"/>");
        due("10: only of RESOLVED ones", hall.extensions(word("p")), 1);
        due("10: only of RESOLVED ones", hall.extensions(word("z")), REFUSED);
        hall.add(2, 0);
        due("10: RESOLVED now", hall.extensions(word("p")), 2);
        due("10: RESOLVED now", hall.extensions(word("z")), 0);
        hall.remove(6);
        due("10: the POINT is gone", hall.extensions(word("p")), REFUSED);
        due("10: its EXTENSIONS too", hall.count(3), 0);
        install(hall, 3, 1, "<point id=\"p\"/><ext point=\"p\"/><");
        due("10: one with a FAULT has none", hall.extensions(word("p")), REFUSED);
    }

    private static boolean fits(String items, String parts) {
        PluginHall hall = new PluginHall();
        install(hall, 0, 1, "<point id=\"p\">" + items + "</point>");
        install(hall, 1, 1, "<ext point=\"p\">" + parts + "</ext>");
        return hall.extensions(word("p")) == 1;
    }

    private static void items() {
        due("10: no ITEMS, all fits", fits("<item/><item name=\"\"/><a name=\"b\"/>", "<x/>"), true);
        due("10: items deeper are none", fits("<a><item name=\"b\"/></a>", "<x/>"), true);
        due("10: of no ITEM", fits("<item name=\"b\"/>", "<x/>"), false);
        due("10: of an ITEM", fits("<item name=\"b\"/>", "<b/><b/>"), true);
        due("10: one of two", fits("<item name=\"b\"/>", "<b/><x/>"), false);
        due("10: nothing in it", fits("<item name=\"b\" must=\"m\"/>", ""), true);
        due("10: deeper ones are free", fits("<item name=\"b\" must=\"m\"/>", "<b m=\"1\"><x/></b>"), true);
        due("10: must", fits("<item name=\"b\" must=\"m\"/>", "<b/>"), false);
        due("10: must, nothing", fits("<item name=\"b\" must=\"m\"/>", "<b m=\"\"/>"), true);
        due("10: must is nothing", fits("<item name=\"b\" must=\"\"/>", "<b/>"), true);
        due("10: must that no NAME meets", fits("<item name=\"b\" must=\"m.1\"/>", "<b m=\"\"/>"), false);
        due("10: the first one counts", fits("<item name=\"b\"/><item name=\"b\" must=\"m\"/>", "<b/>"), true);
        due("10: the first one counts", fits("<item name=\"b\" must=\"m\"/><item name=\"b\"/>", "<b/>"), false);
        due("10: each its own", fits("<item name=\"b\" must=\"m\"/><item name=\"c\"/>", "<c/><b m=\"\"/>"), true);
        due("10: an ITEM that no NAME is", fits("<item name=\"b1\"/>", "<b/>"), false);
    }

    private static void extension() {
        PluginHall hall = new PluginHall();
        due("11: no POINT", hall.extension(word("p"), 0), REFUSED);
        install(hall, 6, 1, "<ext point=\"p\"/><ext point=\"q\"/><ext point=\"p\"/>");
        install(hall, 1, 1, "<point id=\"p\"/><point id=\"q\"/><ext point=\"p\"/><point id=\"e\"/>");
        int[] handles = {18, 96, 98};
        for (int k = 0; k < 3; k++) {
            due("11: by HANDLES", hall.extension(word("p"), k), handles[k]);
        }
        due("11: of the other POINT", hall.extension(word("q"), 0), 97);
        due("11: k above", hall.extension(word("p"), 3), REFUSED);
        due("11: k below", hall.extension(word("p"), -1), REFUSED);
        due("11: none", hall.extension(word("e"), 0), REFUSED);
        due("11: no WORD", hall.extension(0, 0), REFUSED);
        due("11: no WORD", hall.extension(-1, 0), REFUSED);
    }

    /** What an earlier DRAFT or PLUGIN had must not shine through where a later one has less. */
    private static void nothingStale() {
        PluginHall hall = new PluginHall();
        hall.need(6, 0, 0);
        hall.need(7, 0, 0);
        hall.provide(word("x"), 0);
        hall.provide(word("k"), 0);
        install(hall, 0, 1, "<point id=\"p\"><item name=\"a\"/></point><ext point=\"p\"><b/></ext><c><d/></c>");
        due("7: not RESOLVED", hall.plugin(0, 0), 1);
        hall.remove(0);
        hall.provide(word("x"), 0);
        install(hall, 0, 1, "<point id=\"p\"/><ext point=\"p\" c=\"k\"/>");
        due("7: no NEED is left", hall.plugin(0, 7), 0);
        due("7: no CLASS is left", hall.create(1, word("c")), NO_CLASS);
        due("7: no ELEMENT is left", hall.plugin(0, 6), 2);
        due("7: nothing in it", hall.element(0, 0), 0);
        due("7: nothing in it", hall.child(0, 0), REFUSED);
        due("7: POINTS", hall.count(4), 1);
        hall.remove(0);
        hall.need(0, 0, 1);
        install(hall, 1, 1, "<a><b/></a>");
        hall.need(0, 0, 1);
        hall.provide(word("x"), 0);
        hall.provide(word("k"), 0);
        install(hall, 0, 1, "<point id=\"p\"/><ext point=\"p\" c=\"k\"/>");
        due("7: all RESOLVED", hall.count(1), 2);
        due("7: the second CLASS", hall.create(1, word("c")), 0);
    }

    private static void element() {
        PluginHall hall = new PluginHall();
        install(hall, 2, 1, "<ext point=\"p\" a=\"\"><b><c/><d><e/></d></b><f/></ext><g/>");
        int[][] due = {
            {2, 2, -1, 1}, {2, 0, 32, 2}, {0, 0, 33, 3}, {1, 0, 33, 3}, {0, 0, 35, 4}, {0, 0, 32, 2}, {0, 0, -1, 1}};
        for (int n = 0; n < due.length; n++) {
            for (int what = 0; what < 4; what++) {
                due("12: " + n + ", " + what, hall.element(32 + n, what), due[n][what]);
            }
            due("12: no EXTENSION, " + n, hall.element(32 + n, 4), 0);
        }
        for (int bad : new int[] {-1, 0, 31, 39, 48, 127, 128, 32 + 128, Integer.MAX_VALUE, Integer.MIN_VALUE}) {
            for (int what = 0; what <= 4; what++) {
                due("12: no HANDLE " + bad, hall.element(bad, what), REFUSED);
            }
        }
        due("12: what below", hall.element(32, -1), REFUSED);
        due("12: what above", hall.element(32, 5), REFUSED);
        install(hall, 3, 1, POINT_P);
        for (int n = 0; n < 7; n++) {
            due("12: in an EXTENSION, " + n, hall.element(32 + n, 4), n < 6 ? 1 : 0);
        }
        due("12: the POINT is none", hall.element(48, 4), 0);
        hall.remove(2);
        due("12: removed", hall.element(32, 0), REFUSED);
        hall.need(7, 0, 0);
        install(hall, 2, 1, "<a><b/></a>");
        due("12: also if not RESOLVED", hall.element(32, 0), 1);
    }

    private static void name() {
        PluginHall hall = new PluginHall();
        install(hall, 7, 1, "<abcdefgh><z></z></abcdefgh>");
        due("13: eight letters", hall.name(112), word("abcdefgh"));
        due("13: one letter", hall.name(113), word("z"));
        for (int bad : new int[] {-1, 0, 111, 114, 127, 128, 240, Integer.MAX_VALUE, Integer.MIN_VALUE}) {
            due("13: no HANDLE " + bad, hall.name(bad), 0);
        }
        hall.remove(7);
        due("13: removed", hall.name(112), 0);
        install(hall, 7, 1, "<a/><b/><");
        due("13: with a FAULT", hall.name(112), 0);
        hall.remove(7);
        install(hall, 7, 1, "<b/>");
        due("13: what is written anew is new", hall.name(112), word("b"));
        due("13: and no more", hall.name(113), 0);
    }

    private static void child() {
        PluginHall hall = new PluginHall();
        install(hall, 1, 1, "<a><b><c/></b><d/></a><e/>");
        due("14: first", hall.child(16, 0), 17);
        due("14: second", hall.child(16, 1), 19);
        due("14: third", hall.child(16, 2), REFUSED);
        due("14: k below", hall.child(16, -1), REFUSED);
        due("14: deeper", hall.child(17, 0), 18);
        due("14: none", hall.child(20, 0), REFUSED);
        for (int bad : new int[] {-1, 0, 15, 21, 31, 128, 144, Integer.MAX_VALUE, Integer.MIN_VALUE}) {
            due("14: no HANDLE " + bad, hall.child(bad, 0), REFUSED);
        }
        hall.remove(1);
        due("14: removed", hall.child(16, 0), REFUSED);
    }

    private static void attribute() {
        PluginHall hall = new PluginHall();
        install(hall, 0, 1, "<a x=\"\" y=\"z09.zzz9\" abcdefgh=\"1\" z=\"q\"/><b/>");
        due("15: nothing", hall.attribute(0, word("x")), 0);
        due("15: eight letters", hall.attribute(0, word("y")), word("z09.zzz9"));
        due("15: a NAME of eight", hall.attribute(0, word("abcdefgh")), word("1"));
        due("15: the fourth", hall.attribute(0, word("z")), word("q"));
        due("15: no such", hall.attribute(0, word("w")), -1);
        due("15: not its own", hall.attribute(1, word("x")), -1);
        for (long bad : new long[] {0, -1, 1, Long.MAX_VALUE, Long.MIN_VALUE}) {
            due("15: no NAME " + bad, hall.attribute(0, bad), -1);
            due("15: no NAME " + bad, hall.attribute(1, bad), -1);
        }
        for (int bad : new int[] {-1, 2, 16, 128, Integer.MAX_VALUE, Integer.MIN_VALUE}) {
            due("15: no HANDLE " + bad, hall.attribute(bad, word("x")), -1);
            due("15: no HANDLE, no NAME " + bad, hall.attribute(bad, 0), -1);
        }
        hall.remove(0);
        due("15: removed", hall.attribute(0, word("x")), -1);
        install(hall, 0, 1, "<a/>");
        due("15: what is written anew has its own", hall.attribute(0, word("x")), -1);
    }

    private static void create() {
        PluginHall hall = hallNaming("k", 0, 1, "");
        for (int bad : new int[] {-1, 0, 2, 15, 16, 128, 129, Integer.MAX_VALUE, Integer.MIN_VALUE}) {
            due("16: no EXTENSION " + bad, hall.create(bad, word("c")), REFUSED);
        }
        due("16: no such ATTRIBUTE", hall.create(1, word("d")), NO_NAME);
        due("16: no NAME", hall.create(1, 0), NO_NAME);
        due("16: no NAME", hall.create(1, -1), NO_NAME);
        due("16: no CLASS", hall.create(1, word("point")), NO_CLASS);
        due("16: it sleeps still", hall.plugin(0, 0), 2);
        due("16: made", hall.create(1, word("c")), 0);
        due("16: awake", hall.plugin(0, 0), 3);
        due("16: made again", hall.create(1, word("c")), 1);
        due("16: started once", hall.plugin(0, 5), 1);
        hall = new PluginHall();
        hall.provide(word("k"), 0);
        install(hall, 2, 1, POINT_P + "<ext point=\"p\"><a c=\"\"><b c=\"k\"/></a></ext><x c=\"k\"/>");
        due("16: nothing is no WORD", hall.create(34, word("c")), NO_NAME);
        due("16: deep in it", hall.create(35, word("c")), 0);
        due("16: of DEPTH 1, but none", hall.create(36, word("c")), REFUSED);
        due("16: its HANDLE", hall.object(0, 0), 35);
        kindsOfClasses();
        fullOfObjects();
    }

    private static void kindsOfClasses() {
        int[] answers = {0, BROKEN, OTHER_TYPE};
        for (int kind = 0; kind < 3; kind++) {
            PluginHall hall = hallNaming("k", kind, 1, "");
            due("16: kind " + kind, hall.create(1, word("c")), answers[kind]);
            due("16: awake for kind " + kind, hall.plugin(0, 0), 3);
            hall = hallNaming("k", kind + 4, 1, "");
            due("16: kind " + kind + " APART", hall.create(1, word("c")), answers[kind]);
            due("16: not woken for kind " + kind + " APART", hall.plugin(0, 0), 2);
            due("16: not STARTING for kind " + kind + " APART", hall.plugin(0, 5), 0);
            hall = hallNaming("k", kind, 2, "");
            due("16: NOT_AWAKE before kind " + kind, hall.create(1, word("c")), NOT_AWAKE);
            hall = hallNaming("k", kind + 4, 2, "");
            due("16: APART, a failing STARTER is nothing to kind " + kind, hall.create(1, word("c")), answers[kind]);
        }
    }

    private static void fullOfObjects() {
        PluginHall hall = hallNaming("k", 0, 0, "");
        hall.provide(word("m"), 0);
        hall.provide(word("n"), 1);
        install(hall, 1, 1, "<ext point=\"p\" c=\"m\" d=\"n\" e=\"q\"/>");
        for (int n = 0; n < 24; n++) {
            due("16: object " + n, hall.create(1, word("c")), n);
        }
        due("16: FULL", hall.create(1, word("c")), FULL);
        due("16: NO_CLASS before FULL", hall.create(16, word("e")), NO_CLASS);
        due("16: BROKEN before FULL", hall.create(16, word("d")), BROKEN);
        hall.shutdown();
        due("16: FULL again", hall.create(16, word("c")), FULL);
        due("16: but awake", hall.plugin(1, 0), 3);
        hall.remove(0);
        hall.remove(1);
        due("16: all dropped", hall.count(6), 0);
        hall = reinstall(hall);
        due("16: dropped ones were made too", hall.create(1, word("c")), FULL);
    }

    private static PluginHall reinstall(PluginHall hall) {
        hall.provide(word("k"), 0);
        install(hall, 0, 1, POINT_P + "<ext point=\"p\" c=\"k\"/>");
        return hall;
    }

    private static void lookingFor() {
        PluginHall hall = new PluginHall();
        hall.provide(word("a"), 4);
        hall.provide(word("b"), 4);
        hall.add(1, 1);
        hall.need(4, 1, 1);
        hall.provide(word("b"), 4);
        hall.provide(word("c"), 4);
        hall.provide(word("c"), 5);
        hall.add(2, 1);
        hall.provide(word("far"), 0);
        hall.add(4, 1);
        hall.need(2, 1, 1);
        hall.need(1, 1, 1);
        hall.provide(word("c"), 5);
        hall.provide(word("d"), 6);
        hall.provide(word("d"), 4);
        install(hall, 3, 1, POINT_P + "<ext point=\"p\" a=\"a\" b=\"b\" c=\"c\"><x d=\"d\" e=\"far\"/></ext>");
        due("16: of the second NEED", hall.create(49, word("a")), 0);
        due("16: its PLUGIN", hall.object(0, 1), 1);
        due("16: NEEDS in their order", hall.create(49, word("b")), 1);
        due("16: its PLUGIN", hall.object(1, 1), 2);
        due("16: the first CLASS, and NEEDS before its own", hall.create(49, word("c")), 2);
        due("16: its PLUGIN", hall.object(2, 1), 2);
        due("16: its own, the first one", hall.create(50, word("d")), OTHER_TYPE);
        due("16: not what a NEED needs", hall.create(50, word("e")), NO_CLASS);
        due("16: all APART", hall.count(2), 0);
    }

    private static void waking() {
        PluginHall hall = new PluginHall();
        hall.provide(word("m"), 1);
        hall.starter(2, 0);
        hall.add(1, 1);
        hall.need(1, 0, 9);
        hall.provide(word("k"), 0);
        hall.starter(1, word("m"));
        install(hall, 0, 1, POINT_P + "<ext point=\"p\" c=\"k\"/>");
        due("16: what it asks for did not wake", hall.create(1, word("c")), NOT_AWAKE);
        due("16: both were STARTING", hall.plugin(0, 5) * 10 + hall.plugin(1, 5), 11);
        due("16: RESOLVED again", hall.plugin(0, 0) * 10 + hall.plugin(1, 0), 22);
        due("16: nothing was stopped", hall.count(8), 0);
        hall.remove(1);
        hall.provide(word("m"), 1);
        hall.add(1, 1);
        due("16: kinds are nothing to a STARTER", hall.create(1, word("c")), 0);
        due("16: both are ACTIVE", hall.plugin(0, 0) * 10 + hall.plugin(1, 0), 33);

        hall = hallNaming("k", 0, 1, "missing");
        due("16: it asks for no CLASS", hall.create(1, word("c")), NOT_AWAKE);
        due("16: STARTING all the same", hall.plugin(0, 5), 1);
        hall = hallNaming("k", 0, 1, "k");
        due("16: it asks for its own", hall.create(1, word("c")), 0);
        hall = hallNaming("k", 0, 2, "k");
        due("16: its own, but it fails", hall.create(1, word("c")), NOT_AWAKE);

        failingRing();
        apartForStarter();
        longChain();
    }

    private static void failingRing() {
        PluginHall hall = new PluginHall();
        hall.need(0, 0, 9);
        hall.provide(word("m"), 0);
        hall.starter(1, word("k"));
        hall.add(1, 1);
        hall.need(1, 0, 9);
        hall.provide(word("k"), 0);
        hall.starter(2, word("m"));
        install(hall, 0, 1, POINT_P + "<ext point=\"p\" c=\"k\" d=\"m\"/>");
        due("16: the one that fails", hall.create(1, word("c")), NOT_AWAKE);
        due("16: it asked before it failed", hall.plugin(1, 0), 3);
        due("16: RESOLVED again", hall.plugin(0, 0), 2);
        due("16: the other one is awake", hall.create(1, word("d")), 0);
        due("16: once", hall.plugin(1, 5), 1);
        due("16: it starts again each time", hall.create(1, word("c")), NOT_AWAKE);
        due("16: twice", hall.plugin(0, 5), 2);
        due("16: the other one once", hall.plugin(1, 5), 1);
    }

    private static void apartForStarter() {
        PluginHall hall = new PluginHall();
        hall.provide(word("m"), 5);
        hall.starter(2, 0);
        hall.add(1, 1);
        hall.need(1, 0, 9);
        hall.provide(word("k"), 0);
        hall.starter(1, word("m"));
        install(hall, 0, 1, POINT_P + "<ext point=\"p\" c=\"k\"/>");
        due("16: it asks for one APART", hall.create(1, word("c")), 0);
        due("16: whose PLUGIN sleeps on", hall.plugin(1, 0), 2);
        due("16: and was not STARTING", hall.plugin(1, 5), 0);
    }

    private static void longChain() {
        PluginHall hall = new PluginHall();
        for (int p = 7; p >= 0; p--) {
            if (p < 7) {
                hall.need(p + 1, 0, 0);
                hall.starter(1, word("k" + (p + 1)));
            }
            hall.provide(word("k" + p), 0);
            install(hall, p, 0, p > 0 ? "" : POINT_P + "<ext point=\"p\" c=\"k0\"/>");
        }
        due("16: eight wake one another", hall.create(1, word("c")), 0);
        due("16: all are ACTIVE", hall.count(2), 8);
        due("19: by NEEDS", hall.shutdown(), 8);
        for (int k = 0; k < 8; k++) {
            due("19: those that need first", hall.stopped(k), 7 - k);
        }
    }

    private static void object() {
        PluginHall hall = hallNaming("k", 0, 0, "");
        due("17: none yet", hall.object(0, 0), REFUSED);
        hall.need(0, 1, 1);
        hall.provide(word("m"), 0);
        install(hall, 3, 1, "<ext point=\"p\"><a c=\"m\" d=\"k\"/></ext>");
        hall.create(1, word("c"));
        hall.create(49, word("c"));
        hall.create(49, word("d"));
        int[][] due = {{1, 0, 1}, {49, 3, 1}, {49, 0, 1}};
        for (int n = 0; n < 3; n++) {
            for (int what = 0; what < 3; what++) {
                due("17: " + n + ", " + what, hall.object(n, what), due[n][what]);
            }
        }
        for (int bad : new int[] {-1, 3, 24, Integer.MAX_VALUE, Integer.MIN_VALUE}) {
            due("17: no object " + bad, hall.object(bad, 0), REFUSED);
            due("17: no what " + bad, hall.object(0, bad), REFUSED);
        }
        due("17: shutdown", hall.shutdown(), 2);
        due("17: it drops nothing", hall.count(6), 3);
        hall.remove(3);
        due("17: dropped", hall.object(1, 2), 0);
        due("17: dropped", hall.object(2, 2), 0);
        due("17: its HANDLE stays", hall.object(1, 0), 49);
        due("17: its PLUGIN stays", hall.object(1, 1), 3);
        due("17: the other one stays", hall.object(0, 2), 1);
        hall.provide(word("m"), 0);
        install(hall, 3, 1, "<ext point=\"p\"><a c=\"m\" d=\"k\"/></ext>");
        due("17: dropped for good", hall.object(1, 2), 0);
        due("17: a new one", hall.create(49, word("c")), 3);
        hall.need(3, 1, 1);
        install(hall, 5, 1, "<point id=\"a\"/>");
        install(hall, 4, 1, "<point id=\"p\"><item name=\"b\"/></point>");
        due("17: a greater POINT changes nothing", hall.object(3, 2), 1);
    }

    private static void event() {
        PluginHall hall = new PluginHall();
        install(hall, 6, 1, "<ext point=\"p\"/><ext point=\"q\"><b/></ext>");
        due("18: no EVENT yet", hall.event(0), REFUSED);
        install(hall, 5, 1, "<point id=\"p\"/><point id=\"q\"/>");
        due("18: the latest", hall.event(0), 97 + 128);
        due("18: the first", hall.event(1), 96 + 128);
        due("18: no more", hall.event(2), REFUSED);
        due("18: k below", hall.event(-1), REFUSED);
        install(hall, 4, 1, "<point id=\"q\"><item name=\"a\"/></point><ext point=\"q\"/><ext point=\"r\"/>");
        due("18: those that are none first", hall.event(1), 97);
        due("18: then new ones", hall.event(0), 66 + 128);
        due("18: so far", hall.count(7), 4);
        install(hall, 3, 1, "<point id=\"p\"/>");
        due("18: another POINT, the same EXTENSIONS", hall.count(7), 4);
        due("18: so too when it goes", hall.remove(3), 0);
        due("18: one goes, one comes", hall.remove(4), 2);
        due("18: goes", hall.event(1), 66);
        due("18: comes", hall.event(0), 97 + 128);
        due("18: with its PLUGIN", hall.remove(6), 2);
        install(hall, 6, 1, "<ext point=\"p\"/>");
        due("18: it comes again", hall.event(0), 96 + 128);
        due("18: it was gone", hall.event(2), 96);
        for (int i = 0; i < 20; i++) {
            hall.remove(6);
            install(hall, 6, 1, "<ext point=\"q\"/>");
        }
        due("18: of the latest 32", hall.event(31), 96);
        due("18: no more", hall.event(32), REFUSED);
        due("18: no more", hall.event(Integer.MAX_VALUE), REFUSED);
        due("18: no more", hall.event(Integer.MIN_VALUE), REFUSED);
        due("18: so far", hall.count(7), 9 + 40);
    }

    /** PLUGINS 0..n-1, each with a CLASS of its own, made ACTIVE; needs[p] are the ones that p NEEDS. */
    private static PluginHall allActive(int[][] needs) {
        PluginHall hall = new PluginHall();
        for (int p = 0; p < needs.length; p++) {
            for (int q : needs[p]) {
                hall.need(q, 0, 9);
            }
            hall.provide(word("k" + p), 0);
            install(hall, p, 1, (p == 0 ? "<point id=\"p\"/>" : "<a/>") + "<ext point=\"p\" c=\"k" + p + "\"/>");
        }
        for (int p = 0; p < needs.length; p++) {
            due("19: awake " + p, hall.create(16 * p + 1, word("c")), p);
        }
        return hall;
    }

    private static void stopsInOrder(String what, int[][] needs, int... order) {
        PluginHall hall = allActive(needs);
        due("19: " + what, hall.shutdown(), order.length);
        for (int i = 0; i < order.length; i++) {
            due("19: " + what + ", " + i, hall.stopped(order.length - 1 - i), order[i]);
            due("19: RESOLVED still", hall.plugin(i, 0), 2);
        }
        due("19: again", hall.shutdown(), 0);
        due("19: no EVENTS of it", hall.count(7), needs.length);
        due("19: EXTENSIONS stay", hall.count(3), needs.length);
        due("19: woken again", hall.create(1, word("c")), needs.length);
        due("19: started again", hall.plugin(0, 5), 2);
    }

    private static void shutdown() {
        stopsInOrder("no NEEDS", new int[][] {{}, {}, {}}, 2, 1, 0);
        stopsInOrder("the greatest is needed", new int[][] {{2}, {}, {}}, 1, 0, 2);
        stopsInOrder("a ring of two", new int[][] {{1}, {0}}, 1, 0);
        stopsInOrder("a ring, open once one is stopped", new int[][] {{1}, {2}, {0}}, 2, 0, 1);
        stopsInOrder("a ring with one on it", new int[][] {{1}, {0}, {}, {1}}, 3, 2, 1, 0);
        stopsInOrder("a ring beside others", new int[][] {{1}, {0}, {}, {}, {}}, 4, 3, 2, 1, 0);
        stopsInOrder("a ring that needs one", new int[][] {{1, 3}, {0}, {}, {}}, 2, 3, 1, 0);
        stopsInOrder("itself is no other", new int[][] {{}, {1}, {2, 1}}, 2, 1, 0);
    }

    private static void stopped() {
        PluginHall hall = hallNaming("k", 0, 0, "");
        due("20: none yet", hall.stopped(0), REFUSED);
        hall.provide(word("m"), 0);
        install(hall, 3, 1, "<ext point=\"p\" c=\"m\"/>");
        hall.create(48, word("c"));
        hall.shutdown();
        due("20: one", hall.stopped(0), 3);
        due("20: no more", hall.stopped(1), REFUSED);
        due("20: k below", hall.stopped(-1), REFUSED);
        for (int i = 0; i < 16; i++) {
            due("20: " + i + " before the latest", hall.stopped(i), 3);
            hall.create(1, word("c"));
            hall.shutdown();
        }
        due("20: the latest", hall.stopped(0), 0);
        due("20: of the latest 16", hall.stopped(15), 0);
        due("20: no more", hall.stopped(16), REFUSED);
        due("20: no more", hall.stopped(Integer.MAX_VALUE), REFUSED);
        due("20: no more", hall.stopped(Integer.MIN_VALUE), REFUSED);
        due("20: so far", hall.count(8), 17);
    }

    private static void count() {
        PluginHall hall = hallNaming("k", 0, 0, "");
        hall.need(6, 0, 0);
        install(hall, 1, 1, "<ext point=\"p\"/>");
        install(hall, 2, 1, "<point id=\"p\"/><point id=\"q\"/><ext point=\"q\"/><ext point=\"q\"/>");
        hall.create(1, word("c"));
        hall.create(1, word("c"));
        write(hall, "abc");
        int[] before = {3, 2, 1, 3, 2, 2, 2, 3, 0, 3};
        for (int what = 0; what <= 9; what++) {
            due("21: " + what, hall.count(what), before[what]);
        }
        hall.remove(0);
        int[] behind = {2, 1, 0, 2, 2, 2, 0, 4, 1, 3};
        for (int what = 0; what <= 9; what++) {
            due("21: later, " + what, hall.count(what), behind[what]);
        }
        for (int bad : new int[] {-1, 10, Integer.MAX_VALUE, Integer.MIN_VALUE}) {
            due("21: no such what " + bad, hall.count(bad), REFUSED);
        }
    }
}
