/** TEXTS, sentence by sentence where one names an edge: WHOLE, FAULT, HANDLE, and promises 7, 9 and 12 to 15 of them. */
public final class TextEdgesTest extends Asking {
    private static final String SPACES = " \n";
    private static final String NAMES = "abcdefghijklmnopqrstuvwxyz";
    private static final String WORDS = NAMES + "0123456789.";
    private static final String TAG_ENDS = SPACES + "/>";
    private static final int[] NO_HANDLES = {LEAST, LEAST + 1, LEAST + 16, -128, -17, -16, -15, -1, 128, 129, 143, 144, 256, 1 << 30, MOST};

    public static void main(String[] args) {
        betweenElements();
        elementNames();
        attributes();
        values();
        endsOfElements();
        attributesOfOneName();
        fourAttributes();
        sixteenElements();
        fourDeep();
        numbersOfSpaces();
        lengthsOfNames();
        emptyText();
        faultsBehind();
        faultsInOrder();
        wholeOfAnyLength();
        lines();
        noFault();
        numbers();
        greatestHandle();
        handlesWhileInstalled();
        faultHasNoElements();
        elementAnswers();
        noElement();
        otherWhats();
        names();
        children();
        noChild();
        attributeValues();
        noAttribute();
        writtenAnew();
        writtenAnewBehindAFault();
        end();
    }

    private static void dueFault(String text, int place) {
        PluginHall hall = new PluginHall();
        String told = text.replace("\n", "\\n");
        due("add of " + told, install(hall, 0, 0, text), place < 0 ? 0 : 1);
        due("FAULT of " + told, hall.plugin(0, 2), place < 0 ? 0 : 1);
        due("place in " + told, hall.plugin(0, 3), place);
    }

    private static void whole(String text) {
        dueFault(text, -1);
    }

    /** Behind what is begun only those letters may come; which of them make it WHOLE is told, too. */
    private static void next(String begun, String good, String ends) {
        for (int code = 1; code <= 127; code++) {
            char c = (char) code;
            int place = begun.length() + (good.indexOf(c) >= 0 ? 1 : 0);
            dueFault(begun + c, ends.indexOf(c) >= 0 ? -1 : place);
        }
    }

    private static void betweenElements() {
        sentence("SPACES, and any number of ELEMENTS, each with SPACES behind it");
        next("", SPACES + "<", SPACES);
        next(" \n", SPACES + "<", SPACES);
        next("<a/>", SPACES + "<", SPACES);
        next("<a/>\n", SPACES + "<", SPACES);
        next("<a></a>", SPACES + "<", SPACES);
        next("<a/> <b/>", SPACES + "<", SPACES);
        next("<a>", SPACES + "<", "");
        next("<a> ", SPACES + "<", "");
        next("<a><b/>", SPACES + "<", "");
        next("<a><b></b>\n", SPACES + "<", "");
    }

    private static void elementNames() {
        sentence("An ELEMENT: <, its NAME");
        next("<", NAMES, "");
        next("<a/><", NAMES, "");
        next("<a><", NAMES + "/", "");
        next("<a", NAMES + TAG_ENDS, "");
        next("<abcdefg", NAMES + TAG_ENDS, "");
        next("<abcdefgh", TAG_ENDS, "");
    }

    private static void attributes() {
        sentence("any number of ATTRIBUTES, each with at least one SPACE before it, SPACES");
        next("<a ", NAMES + TAG_ENDS, "");
        next("<a \n", NAMES + TAG_ENDS, "");
        next("<a x", NAMES + "=", "");
        next("<a abcdefg", NAMES + "=", "");
        next("<a abcdefgh", "=", "");
        next("<a x=", "\"", "");
        next("<a x=\"\"", TAG_ENDS, "");
        next("<a x=\"\" ", NAMES + TAG_ENDS, "");
        next("<a x=\"1\"\n y", NAMES + "=", "");
    }

    private static void values() {
        sentence("a VALUE a WORD or nothing");
        next("<a x=\"", WORDS + "\"", "");
        next("<a x=\"1", WORDS + "\"", "");
        next("<a x=\"1234567", WORDS + "\"", "");
        next("<a x=\"12345678", "\"", "");
        for (int n = 0; n <= 10; n++) {
            String text = "<a x=\"" + ".a0.z9zzzz".substring(0, n) + "\"/>";
            dueFault(text, n <= 8 ? -1 : 14);
        }
    }

    private static void endsOfElements() {
        sentence("and then either / and >, or >, SPACES, any number of ELEMENTS, each with SPACES behind it, and </, the same NAME, SPACES, >");
        next("<a/", ">", ">");
        next("<a /", ">", ">");
        next("<a x=\"\"/", ">", ">");
        next("<a><b/", ">", "");
        next("<a></", "a", "");
        next("<a></a", SPACES + ">", ">");
        next("<a></a ", SPACES + ">", ">");
        next("<a></a\n ", SPACES + ">", ">");
        next("<abc></ab", "c", "");
        next("<abc></abc", SPACES + ">", ">");
        next("<abcdefgh></abcdefg", "h", "");
        next("<abcdefgh></abcdefgh", SPACES + ">", ">");
        next("<a><b></", "b", "");
        next("<a><b></b></", "a", "");
        next("<a><b></b></a", SPACES + ">", ">");
        next("<a><b></b", SPACES + ">", "");
    }

    private static void attributesOfOneName() {
        sentence("No ELEMENT has two ATTRIBUTES of one NAME");
        next("<a x=\"\" x", NAMES, "");
        next("<a x=\"\" y=\"\" x", NAMES, "");
        next("<a x=\"\" y=\"\" y", NAMES, "");
        next("<a x=\"\" y=\"\" z=\"\" x", NAMES, "");
        next("<a x=\"\" y=\"\" z=\"\" y", NAMES, "");
        next("<a x=\"\" y=\"\" z=\"\" z", NAMES, "");
        next("<a xx=\"\" x", NAMES + "=", "");
        next("<a abcdefg=\"\" abcdefg", NAMES, "");
        next("<a abcdefgh=\"\" abcdefg", NAMES.replace("h", "") + "=", "");
        next("<a abcdefgh=\"\" abcdefgi", "=", "");
        next("<a a", NAMES + "=", "");
        whole("<a x=\"\"><b x=\"\"/></a>");
        whole("<a x=\"\"/><a x=\"\"/>");
        whole("<x x=\"x\" y=\"x\"/>");
    }

    private static void fourAttributes() {
        sentence("or more than 4");
        next("<a a=\"\" b=\"\" c=\"\"", TAG_ENDS, "");
        next("<a a=\"\" b=\"\" c=\"\" ", NAMES + TAG_ENDS, "");
        next("<a a=\"\" b=\"\" c=\"\" d=\"\"", TAG_ENDS, "");
        next("<a a=\"\" b=\"\" c=\"\" d=\"\" ", TAG_ENDS, "");
        next("<a a=\"\" b=\"\" c=\"\" d=\"\"\n ", TAG_ENDS, "");
        whole("<a a=\"\" b=\"\" c=\"\" d=\"\"><b a=\"\" b=\"\" c=\"\" d=\"\"/></a>");
    }

    private static void sixteenElements() {
        sentence("there are at most 16 ELEMENTS");
        String fifteen = "<a/>".repeat(15);
        next(fifteen, SPACES + "<", SPACES);
        next(fifteen + "<", NAMES, "");
        next(fifteen + "<a/>", SPACES, SPACES);
        next(fifteen + "<a/>\n", SPACES, SPACES);
        next(fifteen + "<a>", SPACES + "<", "");
        next(fifteen + "<a><", "/", "");
        next(fifteen + "<a></a>", SPACES, SPACES);
        next("<a>" + "<a/>".repeat(14) + "<", NAMES + "/", "");
        next("<a>" + fifteen, SPACES + "<", "");
        next("<a>" + fifteen + "<", "/", "");
        next("<a>" + fifteen + "</a>", SPACES, SPACES);
        PluginHall hall = new PluginHall();
        install(hall, 0, 0, fifteen + "<a/>");
        due("all are there", hall.plugin(0, 6), 16);
    }

    private static void fourDeep() {
        sentence("one within no other has DEPTH 1, those in it one more, 4 at most");
        next("<a><b><c><", NAMES + "/", "");
        next("<a><b><c><d", NAMES + TAG_ENDS, "");
        next("<a><b><c><d>", SPACES + "<", "");
        next("<a><b><c><d><", "/", "");
        next("<a><b><c><d> <", "/", "");
        next("<a><b><c><d></d><", NAMES + "/", "");
        next("<a><b><c><d/><d><", "/", "");
        next("<a><b><c><d/></c></b><b><c><d><", "/", "");
        whole("<a><b><c><d/><d></d></c></b></a>");
        PluginHall hall = new PluginHall();
        install(hall, 0, 0, "<a><b><c><d/></c></b></a>");
        for (int n = 0; n < 4; n++) {
            due("DEPTH of " + n, hall.element(n, 3), n + 1);
        }
    }

    private static void numbersOfSpaces() {
        sentence("(SPACES are any number of 32 and 10.)");
        for (String some : new String[] {"", " ", "\n", "  ", "\n\n", " \n \n", " ".repeat(20)}) {
            whole(some);
            whole(some + "<a/>" + some + "<b>" + some + "<c/>" + some + "</b" + some + ">" + some);
            whole("<a" + some + "/>");
            whole("<a" + some + " b=\"\"" + some + " c=\"\"" + some + ">" + some + "</a>");
        }
        dueFault("<a b=\"\"c=\"\"/>", 7);
        dueFault("< a/>", 1);
        dueFault("<a / >", 4);
        dueFault("<a>< /a>", 4);
        dueFault("<a></ a>", 5);
        dueFault("<a b =\"\"/>", 4);
        dueFault("<a b= \"\"/>", 5);
        dueFault("<a b=\" \"/>", 6);
    }

    private static void lengthsOfNames() {
        sentence("A NAME is 1..8 letters a-z");
        for (int n = 1; n <= 10; n++) {
            String name = "zyxwvutsrq".substring(0, n);
            dueFault("<" + name + "/>", n <= 8 ? -1 : 9);
            dueFault("<a " + name + "=\"\"/>", n <= 8 ? -1 : 11);
            dueFault("<" + name + "></" + name + ">", n <= 8 ? -1 : 9);
        }
        dueFault("</>", 1);
        dueFault("<>", 1);
        dueFault("<a =\"\"/>", 3);
        dueFault("<a></>", 5);
    }

    private static void emptyText() {
        sentence("0, or 1 if its TEXT has a FAULT");
        PluginHall hall = new PluginHall();
        due("the empty TEXT", hall.add(0, 0), 0);
        due("it has no ELEMENTS", hall.plugin(0, 6), 0);
        due("nor a FAULT", hall.plugin(0, 2), 0);
        due("nor a place of it", hall.plugin(0, 3), -1);
        due("nor a line of it", hall.plugin(0, 4), -1);
        due("a FAULT, installed all the same", install(hall, 1, 9, "<") * 10 + hall.count(0), 12);
        due("with its version", hall.plugin(1, 1), 9);
        due("and RESOLVED", hall.plugin(1, 0), 2);
        due("the DRAFT is empty", hall.count(9), 0);
    }

    private static void faultsBehind() {
        sentence("or, if there is none, behind the last one");
        String all = "<ab x=\"1\" y=\"\"> <c/> <d></d > </ab>";
        for (int n = 1; n < all.length(); n++) {
            dueFault(all.substring(0, n), n);
        }
        whole(all);
        dueFault(" ".repeat(198) + "<a", 200);
        dueFault(" ".repeat(199) + "<", 200);
        whole(" ".repeat(196) + "<a/>");
        whole("\n".repeat(200));
    }

    private static void faultsInOrder() {
        sentence("A TEXT that is not WHOLE has a FAULT, at the first letter such that no WHOLE TEXT (of any length) begins with all up to and with it");
        dueFault("x", 0);
        dueFault("x<a/>", 0);
        dueFault("<1<2<3", 1);
        dueFault("<a/>x<a", 4);
        dueFault(" ".repeat(199) + "x", 199);
        dueFault("<a><b></a></b>", 8);
        dueFault("<a></b></a>", 5);
        dueFault("<a/></a>", 5);
        dueFault("</a>", 1);
    }

    private static void wholeOfAnyLength() {
        sentence("no WHOLE TEXT (of any length)");
        String open = "<abcdefgh>".repeat(3);
        dueFault(" ".repeat(170) + open, 200);
        dueFault(" ".repeat(160) + open + "<abcdefgh", 199);
        dueFault(" ".repeat(160) + open + "<abcdefgh>", 200);
        dueFault(" ".repeat(199) + "<", 200);
        dueFault(" ".repeat(194) + "<a x=\"", 200);
    }

    private static void dueLine(String text, int line) {
        PluginHall hall = new PluginHall();
        install(hall, 0, 0, text);
        due("line in " + text.replace("\n", "\\n"), hall.plugin(0, 4), line);
    }

    private static void lines() {
        sentence("4: its line (1 and how many letters 10 come before it)");
        dueLine("x", 1);
        dueLine("\nx", 2);
        dueLine("\n\n\nx\n\n", 4);
        dueLine("<\n", 1);
        dueLine("\n<\n\n", 2);
        dueLine("<a\n", 2);
        dueLine("<a>\n", 2);
        dueLine("<a\n\nb=\"\n\"/>", 3);
        dueLine("\n".repeat(199) + "<", 200);
        dueLine("\n".repeat(199) + "x", 200);
        dueLine("<a>" + "\n".repeat(197), 198);
        dueLine("\r\tx", 1);
    }

    private static void noFault() {
        sentence("-1 if there is none");
        for (String text : new String[] {"", " ", "\n\n", "<a/>", "\n<a>\n</a>\n"}) {
            PluginHall hall = new PluginHall();
            install(hall, 0, 0, text);
            due("FAULT", hall.plugin(0, 2), 0);
            due("place", hall.plugin(0, 3), -1);
            due("line", hall.plugin(0, 4), -1);
        }
    }

    private static void numbers() {
        sentence("ELEMENTS are numbered from 0 on as they begin");
        PluginHall hall = new PluginHall();
        install(hall, 0, 0, "<a><b><c/></b><d/></a><e><f/></e>");
        for (int n = 0; n < 6; n++) {
            due("NAME of " + n, hall.name(n), 'a' + n);
        }
        int[] in = {-1, 0, 1, 0, -1, 4};
        for (int n = 0; n < 6; n++) {
            due("around " + n, hall.element(n, 2), in[n]);
        }
    }

    private static void greatestHandle() {
        sentence("A HANDLE is 16 times the PLUGIN and the number of an ELEMENT of its TEXT");
        PluginHall hall = new PluginHall();
        install(hall, 7, 0, "<a/>".repeat(14) + "<b c=\"1\"><z d=\"2\"/></b>");
        install(hall, 0, 0, "<f/>");
        due("the greatest", hall.name(127), 'z');
        due("its VALUE", hall.attribute(127, 'd'), '2');
        due("it is in", hall.element(127, 2), 126);
        due("in that", hall.child(126, 0), 127);
        due("the first of the last PLUGIN", hall.name(112), 'a');
        due("the least", hall.name(0), 'f');
        due("one above all", hall.name(128), 0);
        for (int p = 1; p < 7; p++) {
            due("of PLUGIN " + p, hall.element(16 * p, 3), REFUSED);
            install(hall, p, 0, "<a/><b/>");
            due("of PLUGIN " + p, hall.name(16 * p + 1), 'b');
            due("no more of PLUGIN " + p, hall.name(16 * p + 2), 0);
        }
    }

    private static void handlesWhileInstalled() {
        sentence("while it is installed");
        PluginHall hall = new PluginHall();
        install(hall, 3, 0, "<a b=\"1\"><c/></a>");
        due("installed", hall.name(48), 'a');
        hall.remove(3);
        due("name", hall.name(48), 0);
        due("child", hall.child(48, 0), REFUSED);
        due("attribute", hall.attribute(48, 'b'), -1);
        due("create", hall.create(48, 'b'), REFUSED);
        for (int what = 0; what <= 4; what++) {
            due("element " + what, hall.element(48, what), REFUSED);
        }
        due("how many", hall.plugin(3, 6), 0);
    }

    private static void faultHasNoElements() {
        sentence("a TEXT with a FAULT has no ELEMENTS");
        PluginHall hall = new PluginHall();
        install(hall, 0, 0, POINT_P + "<ext point=\"p\"><a b=\"1\"/></ext>x");
        due("how many", hall.plugin(0, 6), 0);
        for (int n = 0; n < 3; n++) {
            due("name", hall.name(n), 0);
            due("element", hall.element(n, 1), REFUSED);
            due("child", hall.child(n, 0), REFUSED);
            due("attribute", hall.attribute(n, word("b")), -1);
            due("create", hall.create(n, word("b")), REFUSED);
        }
        due("POINTS", hall.count(4), 0);
        due("EXTENSIONS", hall.count(3), 0);
        due("EVENTS", hall.count(7), 0);
    }

    private static void elementAnswers() {
        sentence("Of an ELEMENT, by HANDLE, what 0: how many ELEMENTS directly in it; 1: how many ATTRIBUTES");
        PluginHall hall = new PluginHall();
        install(hall, 5, 0, "<a>" + "<b/>".repeat(15) + "</a>");
        install(hall, 6, 0, "<a b=\"\" c=\"\" d=\"\" e=\"\"><f><g/><h/></f></a>");
        due("none in it", hall.element(81, 0), 0);
        due("15 in it", hall.element(80, 0), 15);
        due("only directly", hall.element(96, 0), 1);
        due("no ATTRIBUTES", hall.element(80, 1), 0);
        due("four ATTRIBUTES", hall.element(96, 1), 4);
        sentence("2: the HANDLE of the one that it is directly in, -1 if none");
        due("in none", hall.element(80, 2), -1);
        due("in one", hall.element(95, 2), 80);
        due("directly", hall.element(98, 2), 97);
        sentence("4: 1 if it is an EXTENSION, or in one, else 0");
        install(hall, 0, 0, "<ext point=\"p\"><a><b><c/></b></a></ext><a><ext point=\"p\"/></a>");
        for (int n = 0; n < 6; n++) {
            due("no POINT yet, " + n, hall.element(n, 4), 0);
        }
        install(hall, 1, 0, "<point id=\"p\"><a/></point>");
        for (int n = 0; n < 6; n++) {
            due("in an EXTENSION or not, " + n, hall.element(n, 4), n < 4 ? 1 : 0);
        }
        due("a POINT is none", hall.element(16, 4) + hall.element(17, 4), 0);
        hall.remove(1);
        for (int n = 0; n < 6; n++) {
            due("no POINT any more, " + n, hall.element(n, 4), 0);
        }
    }

    private static void noElement() {
        sentence("Of an ELEMENT, by HANDLE");
        PluginHall hall = new PluginHall();
        install(hall, 0, 0, "<a/>".repeat(16));
        install(hall, 2, 0, "<a><b/></a>");
        for (int what = 0; what <= 4; what++) {
            for (int handle : NO_HANDLES) {
                due("element " + handle + ", " + what, hall.element(handle, what), REFUSED);
            }
            for (int handle : new int[] {16, 31, 34, 47, 48, 127}) {
                due("element " + handle + ", " + what, hall.element(handle, what), REFUSED);
            }
        }
    }

    private static void otherWhats() {
        sentence("REFUSED for others");
        PluginHall hall = new PluginHall();
        install(hall, 0, 0, "<a><b/></a>");
        for (int bad : new int[] {LEAST, -256, -1, 5, 6, 8, 16, 256, MOST}) {
            due("element, what " + bad, hall.element(0, bad), REFUSED);
            due("element, what " + bad, hall.element(1, bad), REFUSED);
            due("neither, " + bad, hall.element(bad, bad), REFUSED);
        }
    }

    private static void names() {
        sentence("The NAME of an ELEMENT, as a WORD; 0 if there is none");
        PluginHall hall = new PluginHall();
        install(hall, 1, 0, "<a/><zyxwvuts/><abcdefg></abcdefg>");
        due("of one letter", hall.name(16), word("a"));
        due("of eight", hall.name(17), word("zyxwvuts"));
        due("of seven", hall.name(18), word("abcdefg"));
        for (int handle : NO_HANDLES) {
            due("name " + handle, hall.name(handle), 0);
        }
        for (int handle : new int[] {0, 15, 19, 31, 32, 127}) {
            due("name " + handle, hall.name(handle), 0);
        }
    }

    private static void children() {
        sentence("The HANDLE of the k-th ELEMENT (0 first) directly in an ELEMENT");
        PluginHall hall = new PluginHall();
        install(hall, 4, 0, "<a><b><c/></b><d/><e><f/></e></a>");
        int[] in = {65, 67, 68};
        for (int k = 0; k < 3; k++) {
            due("child " + k, hall.child(64, k), in[k]);
        }
        due("not its own", hall.child(68, 0), 69);
        install(hall, 5, 0, "<a>" + "<b/>".repeat(15) + "</a>");
        for (int k = 0; k < 15; k++) {
            due("child " + k, hall.child(80, k), 81 + k);
        }
        due("one too many", hall.child(80, 15), REFUSED);
    }

    private static void noChild() {
        sentence("REFUSED if there is none");
        PluginHall hall = new PluginHall();
        install(hall, 0, 0, "<a><b/><c/></a><d/>");
        for (int k : new int[] {LEAST, -256, -1, 2, 3, 16, 256, MOST}) {
            due("child " + k, hall.child(0, k), REFUSED);
        }
        due("nothing in it", hall.child(1, 0), REFUSED);
        due("nothing in it", hall.child(1, -1), REFUSED);
        due("nothing in the last", hall.child(3, 0), REFUSED);
        for (int handle : NO_HANDLES) {
            due("child of " + handle, hall.child(handle, 0), REFUSED);
            due("child of " + handle, hall.child(handle, -1), REFUSED);
        }
        due("child of none", hall.child(4, 0), REFUSED);
        due("child of none", hall.child(16, 0), REFUSED);
    }

    private static void attributeValues() {
        sentence("The VALUE of the ATTRIBUTE of that NAME of an ELEMENT, 0 if it is nothing");
        PluginHall hall = new PluginHall();
        install(hall, 0, 0, "<a a=\"\" abcdefgh=\"1\" abcdefg=\"zzzzzzzz\" b=\".\"><c b=\"2\"/></a>");
        due("nothing", hall.attribute(0, word("a")), 0);
        due("one letter", hall.attribute(0, word("b")), word("."));
        due("eight letters", hall.attribute(0, word("abcdefg")), word("zzzzzzzz"));
        due("a NAME of eight", hall.attribute(0, word("abcdefgh")), word("1"));
        due("of another ELEMENT", hall.attribute(1, word("b")), word("2"));
    }

    private static void noAttribute() {
        sentence("-1 if there is none");
        PluginHall hall = new PluginHall();
        install(hall, 0, 0, "<a b=\"\" c=\"1\"><d e=\"2\"/></a><f/>");
        for (long name : new long[] {0, -1, 1, Long.MIN_VALUE, Long.MAX_VALUE, word("a"), word("e"), word("bb"), 'b' | 'b' << 16, 'b' << 8}) {
            due("attribute " + name, hall.attribute(0, name), -1);
            due("attribute " + name, hall.attribute(2, name), -1);
        }
        due("of the outer one", hall.attribute(1, word("c")), -1);
        for (int handle : NO_HANDLES) {
            due("attribute of " + handle, hall.attribute(handle, word("c")), -1);
            due("attribute of " + handle, hall.attribute(handle, 0), -1);
        }
        due("attribute of none", hall.attribute(3, word("c")), -1);
        due("attribute of none", hall.attribute(16, word("c")), -1);
    }

    private static void writtenAnew() {
        sentence("PLUGIN p is installed with this version (0..255) and what the DRAFT has");
        PluginHall hall = new PluginHall();
        install(hall, 0, 0, "<a b=\"1\" c=\"2\"><d/><e><f/></e></a>");
        hall.remove(0);
        install(hall, 0, 0, "<g/><h i=\"\"/>");
        due("ELEMENTS", hall.plugin(0, 6), 2);
        due("nothing in the first", hall.element(0, 0), 0);
        due("no child", hall.child(0, 0), REFUSED);
        due("no ATTRIBUTES", hall.element(0, 1), 0);
        due("no ATTRIBUTE of before", hall.attribute(0, word("b")), -1);
        due("in none", hall.element(1, 2), -1);
        due("DEPTH", hall.element(1, 3), 1);
        due("one ATTRIBUTE", hall.element(1, 1), 1);
        due("no third", hall.name(2), 0);
    }

    private static void writtenAnewBehindAFault() {
        sentence("and what the DRAFT has, which is empty then: 0, or 1 if its TEXT has a FAULT");
        String all = "<a b=\"1\"><c d=\"\"/><e><f></f ></e></a>";
        for (int n = 1; n < all.length(); n++) {
            PluginHall hall = new PluginHall();
            due("a FAULT", install(hall, 0, 0, all.substring(0, n)), 1);
            due("its place", hall.plugin(0, 3), n);
            hall.remove(0);
            due("the empty TEXT", hall.add(0, 0), 0);
            for (int what = 2; what <= 6; what++) {
                due("none any more, " + what, hall.plugin(0, what), new int[] {0, -1, -1, 0, 0}[what - 2]);
            }
            hall.remove(0);
            install(hall, 0, 0, all.substring(0, n));
            hall.remove(0);
            due("a WHOLE TEXT", install(hall, 0, 0, "<g><h/></g>"), 0);
            due("its ELEMENTS", hall.plugin(0, 6), 2);
            due("in none", hall.element(0, 2), -1);
            due("DEPTH", hall.element(0, 3), 1);
        }
    }
}
