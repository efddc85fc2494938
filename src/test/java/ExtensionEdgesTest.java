/** POINTS and EXTENSIONS, sentence by sentence where one names an edge: promises 8, 10, 11, 18 and 21, and the 512 calls. */
public final class ExtensionEdgesTest extends Asking {
    private static final long P = word("p");
    private static final String TWELVE = "<ext point=\"p\"/>".repeat(12);

    public static void main(String[] args) {
        pointsByName();
        pointsByDepth();
        pointsByWord();
        pointsOfResolved();
        leastHandle();
        leastHandleOfResolved();
        itemsByName();
        itemsByDepth();
        extensionsByName();
        extensionsByWord();
        extensionsOfResolved();
        withoutItems();
        withItems();
        nothingToCheck();
        musts();
        firstItem();
        noPoint();
        noExtensions();
        manyExtensions();
        byHandles();
        noSuchExtension();
        noEvents();
        eventsInOrder();
        eventsOfRemoved();
        eventsOfAnotherPoint();
        howManyEvents();
        eventsLookedBack();
        latestThirtyTwo();
        manyEventsAtOnce();
        counts();
        countsOfNothing();
        otherCounts();
        lastOf512Calls();
        end();
    }

    private static int pointsIn(String text) {
        PluginHall hall = new PluginHall();
        due("WHOLE: " + text, install(hall, 0, 0, text), 0);
        return hall.count(4);
    }

    private static int extensionsIn(String text) {
        PluginHall hall = new PluginHall();
        due("WHOLE: " + text, install(hall, 3, 0, text), 0);
        install(hall, 5, 0, POINT_P);
        return hall.count(3);
    }

    private static boolean fits(String items, String parts) {
        PluginHall hall = new PluginHall();
        install(hall, 0, 0, "<point id=\"p\">" + items + "</point>");
        due("WHOLE: " + parts, install(hall, 1, 0, "<ext point=\"p\">" + parts + "</ext>"), 0);
        due("of the EXTENSIONS", hall.extensions(P), hall.count(3));
        return hall.count(3) == 1;
    }

    private static void pointsByName() {
        sentence("A POINT: an ELEMENT point of DEPTH 1");
        due("point", pointsIn("<point id=\"p\"/>"), 1);
        due("poin", pointsIn("<poin id=\"p\"/>"), 0);
        due("points", pointsIn("<points id=\"p\"/>"), 0);
        due("ext", pointsIn("<ext id=\"p\"/>"), 0);
        due("none", pointsIn(""), 0);
    }

    private static void pointsByDepth() {
        sentence("an ELEMENT point of DEPTH 1");
        due("DEPTH 2", pointsIn("<a><point id=\"p\"/></a>"), 0);
        due("DEPTH 2, in a POINT", pointsIn("<point id=\"p\"><point id=\"q\"/></point>"), 1);
        due("DEPTH 4", pointsIn("<a><a><a><point id=\"p\"/></a></a></a>"), 0);
    }

    private static void pointsByWord() {
        sentence("with an ATTRIBUTE id (a WORD)");
        due("no id", pointsIn("<point/>"), 0);
        due("nothing", pointsIn("<point id=\"\"/>"), 0);
        due("another ATTRIBUTE", pointsIn("<point name=\"p\"/>"), 0);
        due("a longer NAME", pointsIn("<point idd=\"p\"/>"), 0);
        due("the fourth ATTRIBUTE", pointsIn("<point a=\"\" b=\"\" c=\"\" id=\"p\"/>"), 1);
        due("one letter", pointsIn("<point id=\".\"/>"), 1);
        due("eight letters", pointsIn("<point id=\"0.zzzzz9\"/>"), 1);
    }

    private static void pointsOfResolved() {
        sentence("of a RESOLVED PLUGIN with an ATTRIBUTE id (a WORD)");
        PluginHall hall = new PluginHall();
        hall.need(1, 0, 0);
        install(hall, 0, 0, POINT_P);
        due("not RESOLVED", hall.extensions(P), REFUSED);
        due("not RESOLVED", hall.count(4), 0);
        hall.add(1, 0);
        due("RESOLVED", hall.extensions(P), 0);
        hall.remove(1);
        due("not any more", hall.extensions(P), REFUSED);
    }

    private static void leastHandle() {
        sentence("of several with the same WORD only the one with the least HANDLE is");
        due("in one PLUGIN", pointsIn("<point id=\"p\"/><point id=\"q\"/><point id=\"p\"/>"), 2);
        PluginHall hall = new PluginHall();
        install(hall, 4, 0, "<a/><ext point=\"p\"><b/></ext>");
        install(hall, 3, 0, "<point id=\"p\"/><point id=\"p\"><item name=\"c\"/></point>");
        due("the first in its PLUGIN", hall.extensions(P), 1);
        install(hall, 6, 0, "<point id=\"p\"><item name=\"c\"/></point>");
        due("a greater one", hall.extensions(P), 1);
        install(hall, 2, 0, "<point id=\"p\"><item name=\"c\"/></point>");
        due("a lesser one", hall.extensions(P), 0);
        due("POINTS", hall.count(4), 1);
        hall.remove(2);
        due("the lesser one is gone", hall.extensions(P), 1);
        hall.remove(3);
        due("the greater one is left", hall.extensions(P), 0);
        hall.remove(6);
        due("none is left", hall.extensions(P), REFUSED);
    }

    private static void leastHandleOfResolved() {
        sentence("only the one with the least HANDLE is");
        PluginHall hall = new PluginHall();
        hall.need(7, 0, 0);
        install(hall, 0, 0, "<point id=\"p\"><item name=\"c\"/></point>");
        install(hall, 1, 0, "<point id=\"p\"/><ext point=\"p\"><b/></ext>");
        due("the lesser one is not RESOLVED", hall.extensions(P), 1);
        hall.add(7, 0);
        due("the lesser one is RESOLVED", hall.extensions(P), 0);
        hall.remove(7);
        due("it is not again", hall.extensions(P), 1);
    }

    private static void itemsByName() {
        sentence("Its ITEMS: the ELEMENTS item in it (DEPTH 2) that have a WORD as name");
        due("an ITEM", fits("<item name=\"c\"/>", "<b/>"), false);
        due("no name", fits("<item/>", "<b/>"), true);
        due("nothing as name", fits("<item name=\"\"/>", "<b/>"), true);
        due("an id", fits("<item id=\"c\"/>", "<b/>"), true);
        due("must alone", fits("<item must=\"c\"/>", "<b/>"), true);
        due("items", fits("<items name=\"c\"/>", "<b/>"), true);
        due("ite", fits("<ite name=\"c\"/>", "<b/>"), true);
        due("one without a name beside it", fits("<item/><item name=\"\"/><item name=\"b\"/>", "<b/>"), true);
        due("the fourth ATTRIBUTE", fits("<item a=\"\" b=\"\" c=\"\" name=\"c\"/>", "<b/>"), false);
    }

    private static void itemsByDepth() {
        sentence("the ELEMENTS item in it (DEPTH 2)");
        due("DEPTH 3", fits("<a><item name=\"c\"/></a>", "<b/>"), true);
        due("in an ITEM", fits("<item name=\"b\"><item name=\"c\"/></item>", "<c/>"), false);
        PluginHall hall = new PluginHall();
        install(hall, 0, 0, "<point id=\"q\"><item name=\"c\"/></point><point id=\"p\"/><item name=\"c\"/>");
        install(hall, 1, 0, "<ext point=\"p\"><b/></ext>");
        due("those of others", hall.extensions(P), 1);
    }

    private static void extensionsByName() {
        sentence("An EXTENSION: an ELEMENT ext of DEPTH 1");
        due("ext", extensionsIn("<ext point=\"p\"/>"), 1);
        due("ex", extensionsIn("<ex point=\"p\"/>"), 0);
        due("exts", extensionsIn("<exts point=\"p\"/>"), 0);
        due("point", extensionsIn("<point point=\"p\"/>"), 0);
        due("DEPTH 2", extensionsIn("<a><ext point=\"p\"/></a>"), 0);
        due("DEPTH 2, in an EXTENSION", extensionsIn("<ext point=\"p\"><ext point=\"p\"/></ext>"), 1);
        due("DEPTH 4", extensionsIn("<a><a><a><ext point=\"p\"/></a></a></a>"), 0);
    }

    private static void extensionsByWord() {
        sentence("whose ATTRIBUTE point is the WORD of a POINT");
        due("no point", extensionsIn("<ext/>"), 0);
        due("nothing", extensionsIn("<ext point=\"\"/>"), 0);
        due("another WORD", extensionsIn("<ext point=\"q\"/>"), 0);
        due("a longer WORD", extensionsIn("<ext point=\"pp\"/>"), 0);
        due("another ATTRIBUTE", extensionsIn("<ext id=\"p\"/>"), 0);
        due("the fourth ATTRIBUTE", extensionsIn("<ext a=\"\" b=\"\" c=\"\" point=\"p\"/>"), 1);
        due("nothing is no POINT", extensionsIn("<point id=\"\"/><point/><ext point=\"\"/><ext/>"), 0);
        PluginHall hall = new PluginHall();
        install(hall, 0, 0, "<point id=\"0.zzzzz9\"/><ext point=\"0.zzzzz9\"/><ext point=\"0.zzzzz\"/>");
        due("eight letters", hall.extensions(word("0.zzzzz9")), 1);
    }

    private static void extensionsOfResolved() {
        sentence("an ELEMENT ext of DEPTH 1 of a RESOLVED PLUGIN");
        PluginHall hall = new PluginHall();
        install(hall, 0, 0, POINT_P);
        hall.need(2, 1, 1);
        install(hall, 1, 0, "<ext point=\"p\"/>");
        due("not RESOLVED", hall.extensions(P), 0);
        hall.add(2, 2);
        due("of another version", hall.extensions(P), 0);
        hall.remove(2);
        hall.add(2, 1);
        due("RESOLVED", hall.extensions(P), 1);
        hall.remove(2);
        due("not any more", hall.extensions(P), 0);
    }

    private static void withoutItems() {
        sentence("if that has ITEMS");
        due("none, so all fits", fits("", "<b/><c d=\"\"><e/></c>"), true);
        due("others are no ITEMS", fits("<b/><c name=\"d\"/>", "<e/>"), true);
    }

    private static void withItems() {
        sentence("each ELEMENT of DEPTH 2 in it must have the name of an ITEM as its NAME");
        due("one", fits("<item name=\"b\"/>", "<b/>"), true);
        due("many", fits("<item name=\"b\"/>", "<b/><b/><b/>"), true);
        due("not the first", fits("<item name=\"b\"/>", "<c/><b/>"), false);
        due("not the last", fits("<item name=\"b\"/>", "<b/><b/><c/>"), false);
        due("one of two ITEMS", fits("<item name=\"b\"/><item name=\"c\"/>", "<c/><b/>"), true);
        due("a longer NAME", fits("<item name=\"b\"/>", "<bb/>"), false);
        due("a shorter NAME", fits("<item name=\"bb\"/>", "<b/>"), false);
        due("eight letters", fits("<item name=\"abcdefgh\"/>", "<abcdefgh/>"), true);
        due("a WORD that is no NAME", fits("<item name=\"b.1\"/>", "<b/>"), false);
        due("an ATTRIBUTE name of it counts not", fits("<item name=\"b\"/>", "<c name=\"b\"/>"), false);
        due("those of DEPTH 3 are free", fits("<item name=\"b\"/>", "<b><c/></b>"), true);
        due("those of DEPTH 3 do not help", fits("<item name=\"b\"/>", "<c><b/></c>"), false);
    }

    private static void nothingToCheck() {
        sentence("if that has ITEMS each ELEMENT of DEPTH 2 in it must have");
        due("there is no ELEMENT in it", fits("<item name=\"b\" must=\"m\"/>", ""), true);
        PluginHall hall = new PluginHall();
        install(hall, 0, 0, "<point id=\"p\"><item name=\"b\"/></point><ext point=\"p\"/><a><c/></a>");
        due("those in others are free", hall.extensions(P), 1);
    }

    private static void musts() {
        sentence("if the first such ITEM has a WORD as must, an ATTRIBUTE of that NAME (its VALUE may be nothing)");
        due("no must", fits("<item name=\"b\"/>", "<b/>"), true);
        due("nothing as must", fits("<item name=\"b\" must=\"\"/>", "<b/>"), true);
        due("none of that NAME", fits("<item name=\"b\" must=\"m\"/>", "<b/>"), false);
        due("another one", fits("<item name=\"b\" must=\"m\"/>", "<b mm=\"1\" n=\"m\"/>"), false);
        due("one of that NAME", fits("<item name=\"b\" must=\"m\"/>", "<b m=\"1\"/>"), true);
        due("its VALUE is nothing", fits("<item name=\"b\" must=\"m\"/>", "<b m=\"\"/>"), true);
        due("the fourth", fits("<item name=\"b\" must=\"m\"/>", "<b a=\"\" c=\"\" d=\"\" m=\"\"/>"), true);
        due("eight letters", fits("<item name=\"b\" must=\"abcdefgh\"/>", "<b abcdefgh=\"\"/>"), true);
        due("a WORD that is no NAME", fits("<item name=\"b\" must=\"m.1\"/>", "<b m=\"\"/>"), false);
        due("each of them", fits("<item name=\"b\" must=\"m\"/>", "<b m=\"\"/><b/>"), false);
        due("not the deeper ones", fits("<item name=\"b\" must=\"m\"/>", "<b m=\"\"><b/></b>"), true);
        due("not for deeper ones", fits("<item name=\"b\" must=\"m\"/>", "<b><b m=\"\"/></b>"), false);
        due("of its own ITEM", fits("<item name=\"b\" must=\"m\"/><item name=\"c\"/>", "<c/>"), true);
    }

    private static void firstItem() {
        sentence("if the first such ITEM has a WORD as must");
        due("the first has none", fits("<item name=\"b\"/><item name=\"b\" must=\"m\"/>", "<b/>"), true);
        due("the first has nothing", fits("<item name=\"b\" must=\"\"/><item name=\"b\" must=\"m\"/>", "<b/>"), true);
        due("the second has none", fits("<item name=\"b\" must=\"m\"/><item name=\"b\"/>", "<b/>"), false);
        due("the second's is not enough", fits("<item name=\"b\" must=\"m\"/><item name=\"b\" must=\"n\"/>", "<b n=\"\"/>"), false);
        due("the first's is", fits("<item name=\"b\" must=\"m\"/><item name=\"b\" must=\"n\"/>", "<b m=\"\"/>"), true);
        due("the first such", fits("<item name=\"c\" must=\"n\"/><item name=\"b\" must=\"m\"/>", "<b m=\"\"/>"), true);
    }

    private static void noPoint() {
        sentence("How many EXTENSIONS the POINT of this WORD has; REFUSED if there is none");
        PluginHall hall = new PluginHall();
        due("no PLUGIN", hall.extensions(P), REFUSED);
        install(hall, 0, 0, "<point id=\"p\"/><point id=\"\"/><point/><ext point=\"q\"/><ext point=\"\"/><ext/>");
        for (long point : new long[] {0, -1, 1, Long.MIN_VALUE, Long.MAX_VALUE, word("q"), word("pp"), P << 8, P | P << 16}) {
            due("extensions " + point, hall.extensions(point), REFUSED);
            due("extension " + point, hall.extension(point, 0), REFUSED);
        }
        due("the POINT", hall.extensions(P), 0);
    }

    private static void noExtensions() {
        sentence("How many EXTENSIONS the POINT of this WORD has");
        PluginHall hall = new PluginHall();
        install(hall, 0, 0, POINT_P + "<point id=\"q\"/>");
        due("none", hall.extensions(P), 0);
        due("the first of none", hall.extension(P, 0), REFUSED);
        install(hall, 1, 0, "<ext point=\"q\"/>");
        due("another's", hall.extensions(P), 0);
        due("its own", hall.extensions(word("q")), 1);
    }

    /** PLUGIN 0 has the POINT and 11 EXTENSIONS, the others 12 each: as many as the LETTERS allow. */
    private static PluginHall fullHall() {
        PluginHall hall = new PluginHall();
        install(hall, 0, 0, POINT_P + "<ext point=\"p\"/>".repeat(11));
        for (int p = 1; p < 8; p++) {
            install(hall, p, 0, TWELVE);
        }
        return hall;
    }

    private static int handleInFullHall(int k) {
        return k < 11 ? k + 1 : (k + 1) / 12 * 16 + (k + 1) % 12;
    }

    private static void manyExtensions() {
        sentence("How many EXTENSIONS the POINT of this WORD has");
        PluginHall hall = fullHall();
        due("as many as can be", hall.extensions(P), 95);
        due("all of them", hall.count(3), 95);
        sentence("The k-th of them (0 first, by HANDLES)");
        for (int k = 0; k < 95; k++) {
            due("extension " + k, hall.extension(P, k), handleInFullHall(k));
        }
        due("one too many", hall.extension(P, 95), REFUSED);
    }

    private static void byHandles() {
        sentence("The k-th of them (0 first, by HANDLES)");
        PluginHall hall = new PluginHall();
        install(hall, 7, 0, "<a/>".repeat(11) + "<b/><b/><b/><b/><ext point=\"p\"/>");
        install(hall, 2, 0, "<ext point=\"p\"/><point id=\"q\"/><ext point=\"q\"/><ext point=\"p\"><b/></ext><ext point=\"p\"/>");
        install(hall, 5, 0, POINT_P);
        install(hall, 0, 0, "<ext point=\"p\"/>");
        int[] handles = {0, 32, 35, 37, 127};
        due("how many", hall.extensions(P), handles.length);
        for (int k = 0; k < handles.length; k++) {
            due("extension " + k, hall.extension(P, k), handles[k]);
        }
        due("of the other POINT", hall.extension(word("q"), 0), 34);
        hall.remove(2);
        due("those that are left", hall.extension(P, 1), 127);
    }

    private static void noSuchExtension() {
        sentence("REFUSED if there is none");
        PluginHall hall = new PluginHall();
        install(hall, 0, 0, POINT_P + "<ext point=\"p\"/><ext point=\"p\"/>");
        for (int k : new int[] {LEAST, LEAST + 1, -256, -128, -1, 2, 3, 16, 128, 256, MOST}) {
            due("extension " + k, hall.extension(P, k), REFUSED);
            due("of no POINT " + k, hall.extension(word("q"), k), REFUSED);
            due("of no WORD " + k, hall.extension(0, k), REFUSED);
            due("of no WORD " + k, hall.extension(-1, k), REFUSED);
        }
    }

    private static void noEvents() {
        sentence("and with it the set of EXTENSIONS changes");
        PluginHall hall = new PluginHall();
        install(hall, 0, 0, POINT_P);
        install(hall, 1, 0, "<ext point=\"q\"/>");
        due("a POINT is none", hall.count(7), 0);
        due("nor when it goes", hall.remove(1), 0);
        due("no EVENTS", hall.event(0), REFUSED);
        install(hall, 1, 0, "<ext point=\"p\"/>");
        due("one", hall.count(7), 1);
        install(hall, 2, 0, "<point id=\"p\"/><point id=\"q\"/>");
        due("the same EXTENSIONS", hall.count(7), 1);
        due("the same EXTENSIONS", hall.remove(2), 0);
        hall.add(3, 0);
        due("the same EXTENSIONS", hall.remove(3), 0);
        due("so far", hall.count(7), 1);
    }

    private static void eventsInOrder() {
        sentence("for each that is none any more its HANDLE, by HANDLES; then for each new one its HANDLE and 128, by HANDLES");
        PluginHall hall = new PluginHall();
        install(hall, 4, 0, POINT_P + "<ext point=\"p\"><b/></ext><ext point=\"q\"/><ext point=\"p\"/><ext point=\"p\"><b/></ext>");
        install(hall, 7, 0, "<ext point=\"p\"><b/></ext><ext point=\"q\"/>");
        install(hall, 0, 0, "<ext point=\"q\"/><ext point=\"p\"><b/></ext>");
        int before = hall.count(7);
        due("so far", before, 5);
        install(hall, 1, 0, "<point id=\"q\"/><point id=\"p\"><item name=\"c\"/></point>");
        int[] events = {1, 65, 69, 112, 0 + 128, 67 + 128, 114 + 128};
        due("so far", hall.count(7), before + events.length);
        for (int i = 0; i < events.length; i++) {
            due("EVENT " + i, hall.event(events.length - 1 - i), events[i]);
        }
        due("all back", hall.remove(1), 7);
        int[] back = {0, 67, 114, 1 + 128, 65 + 128, 69 + 128, 112 + 128};
        for (int i = 0; i < back.length; i++) {
            due("EVENT " + i, hall.event(back.length - 1 - i), back[i]);
        }
    }

    private static void eventsOfRemoved() {
        sentence("(A removed PLUGIN's are none any more, also if it comes again.)");
        PluginHall hall = new PluginHall();
        install(hall, 0, 0, POINT_P);
        hall.provide(word("k"), 4);
        install(hall, 7, 0, "<ext point=\"p\" c=\"k\"/>");
        hall.create(112, word("c"));
        due("removed", hall.remove(7), 1);
        due("its HANDLE", hall.event(0), 112);
        hall.provide(word("k"), 4);
        install(hall, 7, 0, "<ext point=\"p\" c=\"k\"/>");
        due("it comes again", hall.event(0), 240);
        due("before that", hall.event(1), 112);
        due("before that", hall.event(2), 240);
        due("so far", hall.count(7), 3);
        due("its object is dropped for good", hall.object(0, 2), 0);
    }

    private static void eventsOfAnotherPoint() {
        sentence("When something is added or removed, and with it the set of EXTENSIONS changes, there are EVENTS");
        PluginHall hall = new PluginHall();
        install(hall, 3, 0, POINT_P);
        hall.provide(word("k"), 4);
        install(hall, 4, 0, "<ext point=\"p\" c=\"k\"/>");
        hall.create(64, word("c"));
        install(hall, 2, 0, "<point id=\"p\"><item name=\"b\"/></point>");
        due("another POINT of that WORD, no EVENT", hall.count(7), 1);
        due("its object stays", hall.object(0, 2), 1);
        due("the other POINT goes, no EVENT", hall.remove(2), 0);
        due("its object stays", hall.object(0, 2), 1);
        hall.shutdown();
        hall.clear();
        due("only what is added or removed", hall.count(7), 1);
    }

    private static void howManyEvents() {
        sentence("how many EVENTS there were");
        PluginHall hall = fullHall();
        due("so far", hall.count(7), 95);
        due("of one PLUGIN", hall.remove(3), 12);
        due("all that are left", hall.remove(0), 83);
        due("none is left", hall.remove(1), 0);
        due("so far", hall.count(7), 190);
        hall = new PluginHall();
        install(hall, 0, 0, "<point id=\"p\"><item name=\"b\"/></point>");
        install(hall, 1, 0, POINT_P + "<ext point=\"p\"/><ext point=\"p\"><c/></ext><ext point=\"p\"><c/></ext>");
        due("those that come count, too", hall.remove(0), 2);
    }

    private static void eventsLookedBack() {
        sentence("The k-th EVENT before the latest (0 that one, of the latest 32); REFUSED if there is none");
        PluginHall hall = new PluginHall();
        due("none yet", hall.event(0), REFUSED);
        install(hall, 0, 0, POINT_P + "<ext point=\"p\"/><ext point=\"p\"/>");
        due("the latest", hall.event(0), 130);
        due("the one before", hall.event(1), 129);
        for (int k : new int[] {LEAST, -256, -32, -1, 2, 3, 31, 32, 33, 256, MOST}) {
            due("event " + k, hall.event(k), REFUSED);
        }
    }

    /** EVENT n of a hall where PLUGINS 1 to 7 come one after the other, and go, and come again. */
    private static int eventOfTurns(int n) {
        return (n % 7 + 1) * 16 + (n / 7 % 2 == 0 ? 128 : 0);
    }

    private static PluginHall hallOfTurns(int events) {
        PluginHall hall = new PluginHall();
        install(hall, 0, 0, POINT_P);
        for (int n = 0; n < events; n++) {
            if (n / 7 % 2 == 0) {
                install(hall, n % 7 + 1, 0, "<ext point=\"p\"/>");
            } else {
                due("one EVENT", hall.remove(n % 7 + 1), 1);
            }
        }
        return hall;
    }

    private static void latestThirtyTwo() {
        sentence("(0 that one, of the latest 32)");
        for (int total : new int[] {1, 2, 31, 32, 33, 34, 63, 64, 65, 97, 150}) {
            PluginHall hall = hallOfTurns(total);
            due("so far", hall.count(7), total);
            for (int k = 0; k < 40; k++) {
                due(total + " EVENTS, " + k + " before", hall.event(k), k < 32 && k < total ? eventOfTurns(total - 1 - k) : REFUSED);
            }
            due("far before", hall.event(total - 1), total <= 32 ? eventOfTurns(0) : REFUSED);
            due("one too far", hall.event(total), REFUSED);
        }
    }

    private static void manyEventsAtOnce() {
        sentence("of the latest 32");
        PluginHall hall = fullHall();
        due("more than 32 by one call", hall.remove(0), 95);
        for (int k = 0; k < 32; k++) {
            due("EVENT " + k, hall.event(k), handleInFullHall(94 - k));
        }
        due("no more", hall.event(32), REFUSED);
        install(hall, 0, 0, POINT_P);
        due("and back", hall.count(7), 95 + 95 + 84);
        for (int k = 0; k < 32; k++) {
            due("EVENT " + k, hall.event(k), handleInFullHall(94 - k) + 128);
        }
        due("no more", hall.event(32), REFUSED);
    }

    private static void dueCounts(PluginHall hall, int... counts) {
        for (int what = 0; what <= 9; what++) {
            due("count " + what, hall.count(what), counts[what]);
        }
    }

    private static void counts() {
        sentence("How many, what 0: installed; 1: RESOLVED; 2: ACTIVE; 3: EXTENSIONS; 4: POINTS; 5: objects made; 6: of these not dropped; 7: EVENTS so far; 8: stops so far; 9: LETTERS in the DRAFT's TEXT");
        PluginHall hall = hallNaming("k", 0, 0, "");
        hall.need(6, 0, 0);
        install(hall, 1, 1, "<point id=\"r\"/><ext point=\"p\"/>");
        install(hall, 2, 1, "<point id=\"p\"/><point id=\"q\"/><ext point=\"q\"/><ext point=\"q\"/>");
        install(hall, 3, 1, "<");
        hall.create(1, word("c"));
        hall.create(1, word("c"));
        write(hall, "abc");
        dueCounts(hall, 4, 3, 1, 3, 2, 2, 2, 3, 0, 3);
        hall.remove(0);
        dueCounts(hall, 3, 2, 0, 2, 2, 2, 0, 4, 1, 3);
        hall.clear();
        hall.add(6, 0);
        dueCounts(hall, 4, 4, 0, 3, 3, 2, 0, 5, 1, 0);
    }

    private static void countsOfNothing() {
        sentence("How many, what 0: installed");
        PluginHall hall = new PluginHall();
        dueCounts(hall, 0, 0, 0, 0, 0, 0, 0, 0, 0, 0);
        hall.add(5, 5);
        dueCounts(hall, 1, 1, 0, 0, 0, 0, 0, 0, 0, 0);
        hall.remove(5);
        dueCounts(hall, 0, 0, 0, 0, 0, 0, 0, 0, 0, 0);
        for (int p = 0; p < 8; p++) {
            install(hall, p, 0, p == 0 ? "<point id=\"a\"/>".repeat(13) : "");
        }
        dueCounts(hall, 8, 8, 0, 0, 1, 0, 0, 0, 0, 0);
    }

    private static void otherCounts() {
        sentence("REFUSED for others");
        for (int what : new int[] {LEAST, LEAST + 1, -256, -10, -1, 10, 11, 16, 256, MOST}) {
            due("count " + what, new PluginHall().count(what), REFUSED);
            due("count " + what, fullHall().count(what), REFUSED);
        }
    }

    private static void lastOf512Calls() {
        sentence("An object is used for at most 512 calls after it has been made");
        PluginHall hall = fullHall();
        int calls = 25 * 8;
        int events = 95;
        due("removed", hall.remove(0), 95);
        calls++;
        for (int turn = 0; turn < 60; turn++) {
            install(hall, 0, 0, POINT_P);
            due("all go", hall.remove(0), 84);
            calls += 4;
            events += 84 + 84;
        }
        due("the EVENTS of all calls", hall.count(7), events + 95);
        calls++;
        for (; calls < 511; calls++) {
            due("one that answers nothing", hall.event(32), REFUSED);
        }
        due("the last call", hall.event(31), handleInFullHall(63));
        manyStarts();
    }

    private static void manyStarts() {
        PluginHall hall = hallNaming("k", 4, 0, "");
        hall.provide(word("m"), 1);
        install(hall, 1, 0, "<ext point=\"p\" c=\"m\"/>");
        for (int n = 1; n <= 240; n++) {
            due("BROKEN, but awake", hall.create(16, word("c")), BROKEN);
            due("stopped", hall.shutdown(), 1);
        }
        due("starts", hall.plugin(1, 5), 240);
        due("stops", hall.count(8), 240);
        due("stopped", hall.stopped(15), 1);
        due("stopped", hall.stopped(16), REFUSED);
    }
}
