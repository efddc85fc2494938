import java.util.ArrayList;
import java.util.LinkedHashMap;
import java.util.List;
import java.util.Map;
import java.util.Random;
import java.util.Set;
import java.util.TreeSet;
import java.util.regex.Matcher;
import java.util.regex.Pattern;

/**
 * Random runs, with fixed seeds, against a second hall that is written from the document's words in another way:
 * it works out all from the definitions at each call, and finds a FAULT by trying how a TEXT could go on.
 */
public final class ReferenceTest extends Asking {
    private static final int RUNS = 2500;
    private static final int TEXTS = 2000;
    private static int wrong = 0;

    public static void main(String[] args) {
        for (int seed = 0; seed < TEXTS && wrong < 10; seed++) {
            compareFaults(new Random(seed));
        }
        for (int seed = 0; seed < RUNS && wrong < 10; seed++) {
            new Run(seed).play();
        }
        System.out.println(TEXTS + " texts and " + RUNS + " runs, " + wrong + " wrong");
        if (wrong != 0) {
            System.exit(1);
        }
    }

    private static void compareFaults(Random random) {
        String text = Writer.spoilt(random, random.nextInt(4) > 0 ? Writer.busy(random) : Writer.crowded(random));
        PluginHall hall = new PluginHall();
        write(hall, text);
        hall.add(0, 0);
        int place = Faults.placeIn(text);
        if (hall.plugin(0, 3) != place) {
            wrong++;
            System.out.println("FAULT of " + text + " at " + hall.plugin(0, 3) + ", due is " + place);
        }
    }

    private record Node(String name, int parent, int depth, Map<String, String> attributes) {
        String wordOf(String attribute) {
            String value = attributes.get(attribute);
            return value == null || value.isEmpty() ? null : value;
        }
    }

    /** WHOLE TEXTS by patterns, and the FAULTS of others by completions. */
    private static final class Faults {
        private static final Pattern SPACES = Pattern.compile("[ \n]+");
        private static final Pattern CLOSING = Pattern.compile("</([a-z]{1,8})[ \n]*>");
        private static final Pattern OPENING =
            Pattern.compile("<([a-z]{1,8})((?:[ \n]+[a-z]{1,8}=\"[a-z0-9.]{0,8}\")*)[ \n]*(/?)>");
        private static final Pattern ATTRIBUTE = Pattern.compile("([a-z]{1,8})=\"([a-z0-9.]{0,8})\"");
        private static final String[] LETTERS = {"", "a", "b", "c", "d", "e"};
        private static final String[] VALUES = {"", "=\"\"", "\"\"", "\""};
        private static final String[] ENDS = {"", "/>", ">"};

        /** The ELEMENTS, or null if the TEXT is not WHOLE. */
        static List<Node> nodesOf(String text) {
            List<Node> nodes = new ArrayList<>();
            List<Integer> open = new ArrayList<>();
            int at = 0;
            while (at < text.length()) {
                Matcher token = SPACES.matcher(text).region(at, text.length());
                if (!token.lookingAt()) {
                    token = CLOSING.matcher(text).region(at, text.length());
                    if (token.lookingAt()) {
                        if (open.isEmpty() || !nodes.get(open.remove(open.size() - 1)).name.equals(token.group(1))) {
                            return null;
                        }
                    } else {
                        token = OPENING.matcher(text).region(at, text.length());
                        if (!token.lookingAt() || !opens(token, nodes, open)) {
                            return null;
                        }
                    }
                }
                at = token.end();
            }
            return open.isEmpty() ? nodes : null;
        }

        private static boolean opens(Matcher token, List<Node> nodes, List<Integer> open) {
            Map<String, String> attributes = new LinkedHashMap<>();
            Matcher each = ATTRIBUTE.matcher(token.group(2));
            int n = 0;
            while (each.find()) {
                attributes.put(each.group(1), each.group(2));
                n++;
            }
            int parent = open.isEmpty() ? -1 : open.get(open.size() - 1);
            nodes.add(new Node(token.group(1), parent, open.size() + 1, attributes));
            boolean within = n <= 4 && attributes.size() == n && nodes.size() <= 16 && open.size() < 4;
            if (token.group(3).isEmpty()) {
                open.add(nodes.size() - 1);
            }
            return within;
        }

        static int placeIn(String text) {
            if (nodesOf(text) != null) {
                return -1;
            }
            int good = 0;
            int bad = text.length() + 1;
            while (bad - good > 1) {
                int middle = (good + bad) / 2;
                if (goesOn(text.substring(0, middle))) {
                    good = middle;
                } else {
                    bad = middle;
                }
            }
            return good;
        }

        private static boolean goesOn(String begun) {
            List<String> closings = closingsOf(begun);
            for (String letter : LETTERS) {
                for (String value : VALUES) {
                    for (String end : ENDS) {
                        for (String closing : closings) {
                            if (nodesOf(begun + letter + value + end + closing) != null) {
                                return true;
                            }
                        }
                    }
                }
            }
            return false;
        }

        /** What is open, from the innermost on, its end perhaps already begun. */
        private static List<String> closingsOf(String begun) {
            List<String> open = new ArrayList<>();
            Matcher tag = Pattern.compile("<(/?)([a-z]+)[^<>]*?(/?)>").matcher(begun);
            while (tag.find()) {
                if (tag.group(1).isEmpty() && tag.group(3).isEmpty()) {
                    open.add(tag.group(2));
                } else if (!tag.group(1).isEmpty() && !open.isEmpty()) {
                    open.remove(open.size() - 1);
                }
            }
            String outer = "";
            for (int i = 0; i < open.size() - 1; i++) {
                outer = "</" + open.get(i) + ">" + outer;
            }
            List<String> closings = new ArrayList<>();
            if (open.isEmpty()) {
                closings.add("");
            } else {
                String inner = "</" + open.get(open.size() - 1) + ">";
                for (int i = 0; i < inner.length(); i++) {
                    closings.add(inner.substring(i) + outer);
                }
            }
            return closings;
        }
    }

    /** Makes TEXTS. */
    private static final class Writer {
        private static final String[] NAMES = {"a", "ab", "abc", "abcdefgh", "abcdefgi", "b"};
        private static final String[] WORDS = {"p", "q", "r"};
        private static final String[] PARTS = {"a", "b", "c"};
        private static final String[] CLASSES = {"k", "l", "m", "n"};

        static String pick(Random random, String... from) {
            return from[random.nextInt(from.length)];
        }

        static String spaces(Random random) {
            return random.nextInt(5) > 0 ? "" : pick(random, " ", "\n", " \n");
        }

        /** Any names, some depth. */
        static String busy(Random random) {
            StringBuilder text = new StringBuilder(spaces(random));
            int n = random.nextInt(4);
            for (int i = 0; i < n; i++) {
                busyElement(random, text, 1);
            }
            return cut(text.toString());
        }

        private static void busyElement(Random random, StringBuilder text, int depth) {
            String name = pick(random, NAMES);
            text.append('<').append(name);
            int n = random.nextInt(3) > 0 ? 0 : random.nextInt(6);
            for (int i = 0; i < n; i++) {
                text.append(pick(random, " ", " ", "\n ")).append(pick(random, NAMES)).append("=\"");
                text.append(pick(random, "", "1", "a.9", "zzzzzzzz")).append('"');
            }
            text.append(spaces(random));
            if (random.nextInt(5 - Math.min(depth, 4)) == 0) {
                text.append("/>");
            } else {
                text.append('>').append(spaces(random));
                int inner = random.nextInt(depth > 3 ? 1 + random.nextInt(2) : 4);
                for (int i = 0; i < inner; i++) {
                    busyElement(random, text, depth + 1);
                }
                text.append("</").append(name).append(spaces(random)).append('>');
            }
            text.append(spaces(random));
        }

        /** About as many ELEMENTS as there may be. */
        static String crowded(Random random) {
            StringBuilder text = new StringBuilder();
            int open = 0;
            int n = 14 + random.nextInt(4);
            for (int i = 0; i < n; i++) {
                if (open < 4 && random.nextInt(6) == 0) {
                    text.append("<a>");
                    open++;
                } else {
                    text.append("<a/>");
                }
                if (open > 0 && random.nextInt(8) == 0) {
                    text.append("</a>");
                    open--;
                }
            }
            return text.append("</a>".repeat(open)).append(pick(random, "", " ", "<", "<a", "</a>")).toString();
        }

        /** POINTS and EXTENSIONS. */
        static String useful(Random random) {
            StringBuilder text = new StringBuilder();
            int n = 1 + random.nextInt(4);
            for (int i = 0; i < n; i++) {
                StringBuilder more = new StringBuilder();
                switch (random.nextInt(6)) {
                    case 0, 1 -> point(random, more);
                    case 2, 3, 4 -> ext(random, more);
                    default -> busyElement(random, more, 3);
                }
                if (text.length() + more.length() <= 200) {
                    text.append(more);
                }
            }
            return text.toString();
        }

        private static void point(Random random, StringBuilder text) {
            text.append("<point").append(maybe(random, 8, "id", WORDS)).append('>');
            int n = Math.max(0, random.nextInt(5) - 2);
            for (int i = 0; i < n; i++) {
                text.append(random.nextInt(8) > 0 ? "<item" : "<other");
                text.append(maybe(random, 8, "name", PARTS)).append(maybe(random, 2, "must", "c", "d", "e.1")).append("/>");
            }
            text.append("</point>");
        }

        private static void ext(Random random, StringBuilder text) {
            text.append(random.nextInt(10) > 0 ? "<ext" : "<exts");
            text.append(maybe(random, 8, "point", WORDS)).append(maybe(random, 3, "c", CLASSES)).append('>');
            int n = random.nextInt(3);
            for (int i = 0; i < n; i++) {
                String name = pick(random, PARTS);
                text.append('<').append(name).append(maybe(random, 4, "c", CLASSES)).append(maybe(random, 2, "d", CLASSES));
                text.append(random.nextInt(4) > 0 ? "/>" : "><z" + maybe(random, 4, "c", CLASSES) + "/></" + name + ">");
            }
            text.append("</ext>".replace("ext", text.substring(text.lastIndexOf("<ext") + 1).startsWith("exts") ? "exts" : "ext"));
        }

        private static String maybe(Random random, int odds, String name, String... values) {
            if (random.nextInt(odds) == 0) {
                return random.nextBoolean() ? "" : " " + name + "=\"\"";
            }
            return " " + name + "=\"" + pick(random, values) + "\"";
        }

        static String spoilt(Random random, String text) {
            StringBuilder letters = new StringBuilder(text);
            int n = random.nextInt(3);
            for (int i = 0; i < n; i++) {
                int at = random.nextInt(letters.length() + 1);
                String letter = pick(random, "<", ">", "/", "\"", "=", " ", "\n", "a", "b", "1", ".", "A", "\u007f");
                switch (random.nextInt(4)) {
                    case 0 -> letters.insert(at, letter);
                    case 1 -> letters.replace(at, Math.min(at + 1, letters.length()), letter);
                    case 2 -> letters.delete(at, Math.min(at + 1, letters.length()));
                    default -> letters.setLength(Math.max(at, letters.length() / 2));
                }
            }
            return cut(letters.toString());
        }

        private static String cut(String text) {
            return text.length() <= 200 ? text : text.substring(0, 200);
        }
    }

    private record Need(int plugin, int low, int high) { }

    private record Provided(int plugin, String word, int kind) {
        boolean isApart() {
            return kind >= 4;
        }
    }

    private static final class Installed {
        int version;
        List<Need> needs;
        List<Provided> classes;
        int starterKind;
        String asks;
        List<Node> nodes;
        int faultPlace;
        int faultLine;
        int starts;
    }

    private static final class Thing {
        int handle;
        int outermost;
        int owner;
        boolean dropped;
    }

    /** The hall by definitions; words are texts here. */
    private static final class Model {
        String text = "";
        List<Need> needs = new ArrayList<>();
        List<Provided> classes = new ArrayList<>();
        int starterKind = 0;
        String asks = "";
        final Installed[] plugins = new Installed[8];
        final Set<Integer> active = new TreeSet<>();
        final Set<Integer> starting = new TreeSet<>();
        final List<Integer> events = new ArrayList<>();
        final List<Integer> stops = new ArrayList<>();
        final List<Thing> things = new ArrayList<>();

        int clear() {
            int had = text.length();
            text = "";
            needs = new ArrayList<>();
            classes = new ArrayList<>();
            starterKind = 0;
            asks = "";
            return had;
        }

        int add(int p, int version) {
            if (plugins[p] != null) {
                return PluginHall.EXISTS;
            }
            Set<Integer> before = extensions();
            Installed added = new Installed();
            added.version = version;
            added.needs = needs;
            added.classes = new ArrayList<>();
            for (Provided each : classes) {
                added.classes.add(new Provided(p, each.word, each.kind));
            }
            added.starterKind = starterKind;
            added.asks = starterKind == 0 ? "" : asks;
            added.faultPlace = Faults.placeIn(text);
            added.nodes = added.faultPlace < 0 ? Faults.nodesOf(text) : List.of();
            added.faultLine = added.faultPlace < 0 ? -1 : (text.substring(0, added.faultPlace) + "x").split("\n", -1).length;
            plugins[p] = added;
            clear();
            tell(before);
            return added.faultPlace < 0 ? 0 : 1;
        }

        int remove(int p) {
            if (plugins[p] == null) {
                return PluginHall.REFUSED;
            }
            Set<Integer> before = extensions();
            int told = events.size();
            plugins[p] = null;
            if (active.remove(p)) {
                stops.add(p);
            }
            Set<Integer> resolved = resolved();
            for (int q : new TreeSet<>(active)) {
                if (!resolved.contains(q)) {
                    active.remove(q);
                    stops.add(q);
                }
            }
            tell(before);
            return events.size() - told;
        }

        private void tell(Set<Integer> before) {
            Set<Integer> now = extensions();
            for (int h : before) {
                if (!now.contains(h)) {
                    events.add(h);
                    for (Thing each : things) {
                        each.dropped |= each.outermost == h;
                    }
                }
            }
            for (int h : now) {
                if (!before.contains(h)) {
                    events.add(h + 128);
                }
            }
        }

        /** The greatest set of which each has all that it NEEDS within it. */
        Set<Integer> resolved() {
            Set<Integer> greatest = new TreeSet<>();
            for (int bits = 0; bits < 256; bits++) {
                if (Integer.bitCount(bits) > greatest.size() && holds(bits)) {
                    greatest.clear();
                    for (int p = 0; p < 8; p++) {
                        if ((bits >> p & 1) == 1) {
                            greatest.add(p);
                        }
                    }
                }
            }
            return greatest;
        }

        private boolean holds(int bits) {
            for (int p = 0; p < 8; p++) {
                if ((bits >> p & 1) == 1) {
                    if (plugins[p] == null) {
                        return false;
                    }
                    for (Need need : plugins[p].needs) {
                        if ((bits >> need.plugin & 1) == 0 || !suits(need)) {
                            return false;
                        }
                    }
                }
            }
            return true;
        }

        private boolean suits(Need need) {
            Installed needed = plugins[need.plugin];
            return needed != null && needed.version >= need.low && needed.version <= need.high;
        }

        int plugin(int p, int what) {
            Installed asked = plugins[p];
            if (asked == null) {
                return 0;
            }
            Set<Integer> resolved = resolved();
            int unmet = 0;
            for (int i = asked.needs.size(); i > 0; i--) {
                Need need = asked.needs.get(i - 1);
                unmet = resolved.contains(need.plugin) && suits(need) ? unmet : i;
            }
            int standing = active.contains(p) ? 3 : resolved.contains(p) ? 2 : 1;
            return new int[] {standing, asked.version, asked.faultPlace < 0 ? 0 : 1, asked.faultPlace, asked.faultLine,
                asked.starts, asked.nodes.size(), unmet}[what];
        }

        Node node(int handle) {
            if (handle < 0 || handle > 127 || plugins[handle / 16] == null) {
                return null;
            }
            List<Node> nodes = plugins[handle / 16].nodes;
            return handle % 16 < nodes.size() ? nodes.get(handle % 16) : null;
        }

        List<Integer> in(int handle) {
            List<Integer> found = new ArrayList<>();
            for (int h = handle / 16 * 16; h < handle / 16 * 16 + 16; h++) {
                if (node(h) != null && node(h).parent == handle % 16) {
                    found.add(h);
                }
            }
            return found;
        }

        Map<String, Integer> points() {
            Map<String, Integer> points = new LinkedHashMap<>();
            Set<Integer> resolved = resolved();
            for (int h = 0; h < 128; h++) {
                Node node = node(h);
                if (node != null && node.depth == 1 && node.name.equals("point") && node.wordOf("id") != null
                    && resolved.contains(h / 16)) {
                    points.putIfAbsent(node.wordOf("id"), h);
                }
            }
            return points;
        }

        Set<Integer> extensions() {
            Set<Integer> found = new TreeSet<>();
            Map<String, Integer> points = points();
            Set<Integer> resolved = resolved();
            for (int h = 0; h < 128; h++) {
                Node node = node(h);
                if (node != null && node.depth == 1 && node.name.equals("ext") && resolved.contains(h / 16)
                    && points.containsKey(node.attributes.getOrDefault("point", ""))
                    && fits(h, points.get(node.wordOf("point")))) {
                    found.add(h);
                }
            }
            return found;
        }

        private boolean fits(int ext, int point) {
            Map<String, Node> items = new LinkedHashMap<>();
            for (int h : in(point)) {
                Node node = node(h);
                if (node.name.equals("item") && node.wordOf("name") != null) {
                    items.putIfAbsent(node.wordOf("name"), node);
                }
            }
            if (items.isEmpty()) {
                return true;
            }
            for (int h : in(ext)) {
                Node item = items.get(node(h).name);
                if (item == null || item.wordOf("must") != null && !node(h).attributes.containsKey(item.wordOf("must"))) {
                    return false;
                }
            }
            return true;
        }

        List<Integer> extensionsOf(String word) {
            if (!points().containsKey(word)) {
                return null;
            }
            List<Integer> found = new ArrayList<>();
            for (int h : extensions()) {
                if (node(h).wordOf("point").equals(word)) {
                    found.add(h);
                }
            }
            return found;
        }

        int outermost(int handle) {
            int h = handle;
            while (node(h).parent >= 0) {
                h = h / 16 * 16 + node(h).parent;
            }
            return h;
        }

        int element(int handle, int what) {
            Node node = node(handle);
            if (node == null || what < 0 || what > 4) {
                return PluginHall.REFUSED;
            }
            int parent = node.parent < 0 ? -1 : handle / 16 * 16 + node.parent;
            int within = extensions().contains(outermost(handle)) ? 1 : 0;
            return new int[] {in(handle).size(), node.attributes.size(), parent, node.depth, within}[what];
        }

        private Provided lookFor(int p, String word) {
            List<Integer> places = new ArrayList<>();
            for (Need need : plugins[p].needs) {
                places.add(need.plugin);
            }
            places.add(p);
            for (int q : places) {
                for (Provided each : plugins[q].classes) {
                    if (each.word.equals(word)) {
                        return each;
                    }
                }
            }
            return null;
        }

        private boolean wakes(Provided found) {
            int p = found.plugin;
            if (found.isApart() || active.contains(p) || starting.contains(p)) {
                return true;
            }
            Installed woken = plugins[p];
            woken.starts++;
            starting.add(p);
            boolean good = woken.starterKind != 2;
            if (!woken.asks.isEmpty()) {
                Provided asked = lookFor(p, woken.asks);
                good &= asked != null && wakes(asked);
            }
            starting.remove(p);
            if (good) {
                active.add(p);
            }
            return good;
        }

        int create(int handle, String attribute) {
            if (element(handle, 4) != 1) {
                return PluginHall.REFUSED;
            }
            String word = node(handle).wordOf(attribute);
            if (word == null) {
                return PluginHall.NO_NAME;
            }
            Provided found = lookFor(handle / 16, word);
            if (found == null) {
                return PluginHall.NO_CLASS;
            }
            if (!wakes(found)) {
                return PluginHall.NOT_AWAKE;
            }
            if (found.kind % 4 > 0) {
                return found.kind % 4 == 1 ? PluginHall.BROKEN : PluginHall.OTHER_TYPE;
            }
            if (things.size() == 24) {
                return PluginHall.FULL;
            }
            Thing thing = new Thing();
            thing.handle = handle;
            thing.outermost = outermost(handle);
            thing.owner = found.plugin;
            things.add(thing);
            return things.size() - 1;
        }

        int shutdown() {
            int n = active.size();
            while (!active.isEmpty()) {
                int greatest = -1;
                int free = -1;
                for (int p : active) {
                    greatest = p;
                    boolean needed = false;
                    for (int q : active) {
                        needed |= q != p && plugins[q].needs.stream().anyMatch(need -> need.plugin == p);
                    }
                    free = needed ? free : p;
                }
                int next = free < 0 ? greatest : free;
                active.remove(next);
                stops.add(next);
            }
            return n;
        }

        int count(int what) {
            int installed = 0;
            for (Installed each : plugins) {
                installed += each == null ? 0 : 1;
            }
            int kept = 0;
            for (Thing each : things) {
                kept += each.dropped ? 0 : 1;
            }
            return new int[] {installed, resolved().size(), active.size(), extensions().size(), points().size(),
                things.size(), kept, events.size(), stops.size(), text.length()}[what];
        }

        static int before(List<Integer> all, int k, int most) {
            return k < 0 || k >= most || k >= all.size() ? PluginHall.REFUSED : all.get(all.size() - 1 - k);
        }
    }

    /** One run of calls on both halls, not more than one object is used for. */
    private static final class Run {
        private static final int MOST_CALLS = 512;
        private static final int DEAREST_ACTION = 40;
        private static final String[] ATTRIBUTES = {"", "id", "point", "name", "must", "c", "d", "a", "abcdefgh"};

        private final int seed;
        private final Random random;
        private final PluginHall hall = new PluginHall();
        private final Model model = new Model();
        private final StringBuilder told = new StringBuilder();
        private int calls = 0;
        private boolean failed = false;

        Run(int seed) {
            this.seed = seed;
            this.random = new Random(seed);
        }

        void play() {
            int atEnd = random.nextInt(200);
            while (calls + atEnd + DEAREST_ACTION <= MOST_CALLS && !failed) {
                act();
                int questions = random.nextInt(12);
                for (int i = 0; i < questions && calls < MOST_CALLS; i++) {
                    ask(random.nextInt(16));
                }
            }
            while (calls < MOST_CALLS && !failed) {
                ask(random.nextInt(16));
            }
        }

        private void act() {
            int what = random.nextInt(12);
            if (what < 5) {
                install();
            } else if (what < 7) {
                remove();
            } else if (what < 11) {
                create();
            } else {
                due("shutdown", hall.shutdown(), model.shutdown());
            }
        }

        private void due(String call, long got, long want) {
            calls++;
            told.append(call).append(" -> ").append(want).append('\n');
            if (got != want && !failed) {
                failed = true;
                wrong++;
                System.out.println("seed " + seed + ": " + call + " answered " + got + ", due is " + want + ", behind\n" + told);
            }
        }

        private void install() {
            String text = Writer.useful(random);
            if (random.nextInt(12) == 0) {
                text = Writer.spoilt(random, text);
            }
            write(hall, text);
            calls += (text.length() + 7) / 8;
            model.text = text;
            told.append(text).append('\n');
            installWiring();
            if (random.nextInt(20) == 0) {
                due("clear", hall.clear(), model.clear());
            }
            int p = random.nextInt(8);
            if (model.plugins[p] != null && random.nextBoolean()) {
                due("remove " + p, hall.remove(p), model.remove(p));
            }
            int version = random.nextInt(4);
            due("add " + p + ", " + version, hall.add(p, version), model.add(p, version));
            due("clear", hall.clear(), model.clear());
        }

        private void installWiring() {
            int needs = Math.max(0, random.nextInt(5) - 1);
            for (int i = 0; i < needs; i++) {
                Need need = new Need(random.nextInt(8), random.nextInt(5) == 0 ? 2 : 0, random.nextInt(5) == 0 ? 2 : 3);
                model.needs.add(need);
                due(need.toString(), hall.need(need.plugin, need.low, need.high), i + 1);
            }
            int classes = random.nextInt(5);
            for (int i = 0; i < classes; i++) {
                int kind = random.nextInt(3) > 0 ? 0 : new int[] {0, 1, 2, 4, 5, 6}[random.nextInt(6)];
                Provided provided = new Provided(-1, Writer.pick(random, Writer.CLASSES), kind);
                model.classes.add(provided);
                due(provided.toString(), hall.provide(word(provided.word), kind), i + 1);
            }
            if (random.nextInt(3) > 0) {
                model.starterKind = random.nextInt(6) == 0 ? 2 : random.nextInt(4) == 0 ? 0 : 1;
                model.asks = random.nextInt(3) == 0 ? "" : Writer.pick(random, Writer.CLASSES);
                due("starter " + model.starterKind + model.asks, hall.starter(model.starterKind, word(model.asks)) ? 1 : 0, 1);
            }
        }

        private void remove() {
            int p = random.nextInt(8);
            due("remove " + p, hall.remove(p), model.remove(p));
        }

        private void create() {
            List<Integer> within = new ArrayList<>();
            for (int h = 0; h < 128; h++) {
                if (model.node(h) != null && model.element(h, 4) == 1) {
                    within.add(h);
                }
            }
            for (int i = 0; i < 3; i++) {
                int handle = within.isEmpty() || random.nextInt(12) == 0
                    ? random.nextInt(140) - 6 : within.get(random.nextInt(within.size()));
                String attribute = Writer.pick(random, "c", "c", "c", "d", "point", "e");
                due("create " + handle + attribute, hall.create(handle, word(attribute)), model.create(handle, attribute));
            }
        }

        private void ask(int which) {
            int k = random.nextInt(36) - 1;
            int what = random.nextInt(10);
            switch (which) {
                case 0, 1, 2 -> due("count " + what, hall.count(what), model.count(what));
                case 3, 4, 5 -> askPlugin(random.nextInt(8), what % 8);
                case 6, 7 -> due("event " + k, hall.event(k), Model.before(model.events, k, 32));
                case 8 -> due("stopped " + k, hall.stopped(k), Model.before(model.stops, k, 16));
                case 9, 10 -> askExtensions(Writer.pick(random, Writer.WORDS), random.nextInt(5) - 1);
                case 11 -> askObject(random.nextInt(model.things.size() + 2) - 1, random.nextInt(5) - 1);
                default -> askElement(someHandle());
            }
        }

        private void askPlugin(int p, int what) {
            due("plugin " + p + ", " + what, hall.plugin(p, what), model.plugin(p, what));
        }

        private void askExtensions(String word, int k) {
            List<Integer> found = model.extensionsOf(word);
            if (random.nextBoolean()) {
                due("extensions " + word, hall.extensions(word(word)), found == null ? PluginHall.REFUSED : found.size());
            } else {
                due("extension " + word + k, hall.extension(word(word), k),
                    found == null || k < 0 || k >= found.size() ? PluginHall.REFUSED : found.get(k));
            }
        }

        private void askObject(int n, int what) {
            int want = PluginHall.REFUSED;
            if (n >= 0 && n < model.things.size() && what >= 0 && what < 3) {
                Thing thing = model.things.get(n);
                want = new int[] {thing.handle, thing.owner, thing.dropped ? 0 : 1}[what];
            }
            due("object " + n + ", " + what, hall.object(n, what), want);
        }

        /** Mostly one of an ELEMENT, or close behind the last one of a PLUGIN. */
        private int someHandle() {
            if (random.nextInt(8) == 0) {
                return random.nextInt(140) - 6;
            }
            int p = random.nextInt(8);
            return 16 * p + random.nextInt(model.plugin(p, 6) + 1);
        }

        private void askElement(int h) {
            Node node = model.node(h);
            int k = random.nextInt(7) - 1;
            switch (random.nextInt(4)) {
                case 0 -> due("name " + h, hall.name(h), node == null ? 0 : word(node.name));
                case 1 -> {
                    List<Integer> inner = node == null ? List.of() : model.in(h);
                    due("child " + h + ", " + k, hall.child(h, k), k < 0 || k >= inner.size() ? PluginHall.REFUSED : inner.get(k));
                }
                case 2 -> {
                    String name = Writer.pick(random, ATTRIBUTES);
                    String value = node == null ? null : node.attributes.get(name);
                    due("attribute " + h + name, hall.attribute(h, word(name)), value == null ? -1 : word(value));
                }
                default -> due("element " + h + ", " + k, hall.element(h, k), model.element(h, k));
            }
        }
    }
}
