/** A hall for plugins; ../shared/DOC.md has the promises, and the words in capitals are its terms. */
public final class PluginHall {
    public static final int REFUSED = -1, FULL = -2, EXISTS = -3, NO_NAME = -4, NO_CLASS = -5, NOT_AWAKE = -6, BROKEN = -7, OTHER_TYPE = -8;

    private static final int NONE = -1;
    private static final int PLUGINS = 8;
    private static final int ELEMENTS = 16;
    private static final int HANDLES = PLUGINS * ELEMENTS;
    private static final int MOST_VERSION = 255;
    private static final int WORD_LETTERS = 8;

    private static final long POINT = 'p' | 'o' << 8 | 'i' << 16 | 'n' << 24 | (long) 't' << 32;
    private static final long EXT = 'e' | 'x' << 8 | 't' << 16;
    private static final long ITEM = 'i' | 't' << 8 | 'e' << 16 | 'm' << 24;
    private static final long ID = 'i' | 'd' << 8;
    private static final long NAME = 'n' | 'a' << 8 | 'm' << 16 | 'e' << 24;
    private static final long MUST = 'm' | 'u' << 8 | 's' << 16 | 't' << 24;

    private final Draft draft;
    private final House house;
    private final Shelf shelf;
    private final Made made;
    private final History events;

    public PluginHall() {
        draft = new Draft();
        house = new House();
        shelf = new Shelf(house);
        made = new Made();
        events = new History(32);
    }

    public int text(long w) {
        return draft.append(w);
    }

    public int need(int q, int low, int high) {
        if (!isPlugin(q) || low < 0 || low > high || high > MOST_VERSION) {
            return REFUSED;
        }
        return draft.wiring.addNeed(q, low, high);
    }

    public int provide(long w, int kind) {
        if (!isWord(w) || kind < 0 || kind > 6 || kind == 3) {
            return REFUSED;
        }
        return draft.wiring.addClass(w, kind);
    }

    public boolean starter(int kind, long w) {
        if (kind < Wiring.NO_STARTER || kind > Wiring.FAILING_STARTER || w != 0 && !isWord(w)) {
            return false;
        }
        draft.wiring.setStarter(kind, w);
        return true;
    }

    public int clear() {
        int had = draft.length;
        draft.empty();
        return had;
    }

    public int add(int p, int version) {
        if (!isPlugin(p) || version < 0 || version > MOST_VERSION) {
            return REFUSED;
        }
        Plugin added = house.row[p];
        if (added.installed) {
            return EXISTS;
        }
        added.install(draft, version);
        draft.empty();
        house.resolve();
        refresh();
        return added.faults();
    }

    public int remove(int p) {
        if (!isPlugin(p) || !house.row[p].installed) {
            return REFUSED;
        }
        house.stopIfActive(p);
        house.row[p].uninstall();
        house.resolve();
        house.stopUnresolved();
        return refresh();
    }

    public int plugin(int p, int what) {
        if (!isPlugin(p) || what < 0 || what > 7) {
            return REFUSED;
        }
        Plugin asked = house.row[p];
        if (!asked.installed) {
            return 0;
        }
        switch (what) {
            case 0: return asked.standing();
            case 1: return asked.version;
            case 2: return asked.faults();
            case 3: return asked.faultPlace;
            case 4: return asked.faultLine;
            case 5: return asked.starts;
            case 6: return asked.tree.size;
            default: return house.firstUnmet(p);
        }
    }

    public int extensions(long point) {
        return shelf.pointOf(point) == NONE ? REFUSED : shelf.extensionsOf(point);
    }

    public int extension(long point, int k) {
        return shelf.pointOf(point) == NONE ? REFUSED : shelf.extensionOf(point, k);
    }

    public int element(int handle, int what) {
        if (!house.isHandle(handle)) {
            return REFUSED;
        }
        Element asked = house.at(handle);
        switch (what) {
            case 0: return house.treeOf(handle).childrenOf(asked.number);
            case 1: return asked.attributes;
            case 2: return handleBeside(handle, asked.parent);
            case 3: return asked.depth;
            case 4: return shelf.isWithinExtension(handle) ? 1 : 0;
            default: return REFUSED;
        }
    }

    public long name(int handle) {
        return house.at(handle).name;
    }

    public int child(int handle, int k) {
        if (!house.isHandle(handle)) {
            return REFUSED;
        }
        int found = house.treeOf(handle).childOf(house.at(handle).number, k);
        return found == NONE ? REFUSED : handleBeside(handle, found);
    }

    public long attribute(int handle, long name) {
        return house.at(handle).valueOf(name);
    }

    public int create(int handle, long attribute) {
        if (!shelf.isWithinExtension(handle)) {
            return REFUSED;
        }
        Element source = house.at(handle);
        long word = source.valueOf(attribute);
        if (word <= 0) {
            return NO_NAME;
        }
        int found = house.lookFor(handle / ELEMENTS, word);
        if (found == NONE) {
            return NO_CLASS;
        }
        if (!house.wakesFor(found, 0)) {
            return NOT_AWAKE;
        }
        switch (house.kindOf(found) & ~Wiring.APART) {
            case Wiring.FAILING_CLASS: return BROKEN;
            case Wiring.OTHER_CLASS: return OTHER_TYPE;
            default: return made.make(handle, handleBeside(handle, source.outermost), House.ownerOf(found));
        }
    }

    public int object(int n, int what) {
        if (n < 0 || n >= made.total) {
            return REFUSED;
        }
        switch (what) {
            case 0: return made.sources[n];
            case 1: return made.owners[n];
            case 2: return made.dropped[n] ? 0 : 1;
            default: return REFUSED;
        }
    }

    public int event(int k) {
        return events.before(k);
    }

    public int shutdown() {
        return house.stopAll();
    }

    public int stopped(int k) {
        return house.stops.before(k);
    }

    public int count(int what) {
        switch (what) {
            case 0: return house.standingAtLeast(Plugin.INSTALLED);
            case 1: return house.standingAtLeast(Plugin.RESOLVED);
            case 2: return house.standingAtLeast(Plugin.ACTIVE);
            case 3: return countTrue(shelf.isExtension);
            case 4: return countTrue(shelf.isPoint);
            case 5: return made.total;
            case 6: return made.kept();
            case 7: return events.total;
            case 8: return house.stops.total;
            case 9: return draft.length;
            default: return REFUSED;
        }
    }

    private int refresh() {
        int news = shelf.refresh(events);
        made.dropOutside(shelf.isExtension);
        return news;
    }

    private static boolean isPlugin(int p) {
        return p >= 0 && p < PLUGINS;
    }

    private static int handleBeside(int handle, int number) {
        return number == NONE ? NONE : handle / ELEMENTS * ELEMENTS + number;
    }

    private static int countTrue(boolean[] flags) {
        int n = 0;
        for (boolean flag : flags) {
            if (flag) {
                n++;
            }
        }
        return n;
    }

    private static int octet(long w, int i) {
        return (int) (w >>> 8 * i) & 255;
    }

    private static boolean isNameLetter(int c) {
        return c >= 'a' && c <= 'z';
    }

    private static boolean isWordLetter(int c) {
        return isNameLetter(c) || c >= '0' && c <= '9' || c == '.';
    }

    private static boolean isWord(long w) {
        int n = 0;
        while (n < WORD_LETTERS && isWordLetter(octet(w, n))) {
            n++;
        }
        // A shift by 64 would shift by nothing, so eight letters are asked for first.
        return n == WORD_LETTERS || n > 0 && w >>> 8 * n == 0;
    }

    /** What the next PLUGIN will be made of. */
    private static final class Draft {
        private static final int MOST_LETTERS = 200;

        private final byte[] letters;
        private final Wiring wiring;
        private int length;

        Draft() {
            letters = new byte[MOST_LETTERS];
            wiring = new Wiring();
        }

        int append(long w) {
            int more = lettersIn(w);
            if (more == 0) {
                return REFUSED;
            }
            if (length + more > MOST_LETTERS) {
                return FULL;
            }
            for (int i = 0; i < more; i++) {
                letters[length + i] = (byte) octet(w, i);
            }
            length += more;
            return length;
        }

        void empty() {
            length = 0;
            wiring.reset();
        }

        /** 0 also if one of them is no LETTER: then none may be taken. */
        private static int lettersIn(long w) {
            int n = 0;
            while (n < 8 && octet(w, n) != 0) {
                if (octet(w, n) > 127) {
                    return 0;
                }
                n++;
            }
            return n;
        }
    }

    /** NEEDS, CLASSES and STARTER, of the DRAFT or of a PLUGIN. */
    private static final class Wiring {
        private static final int MOST_NEEDS = 3;
        private static final int MOST_CLASSES = 4;
        private static final int FAILING_CLASS = 1;
        private static final int OTHER_CLASS = 2;
        private static final int APART = 4;
        private static final int NO_STARTER = 0;
        private static final int FAILING_STARTER = 2;

        private final int[] needed;
        private final int[] low;
        private final int[] high;
        private final long[] words;
        private final int[] kinds;
        private int needs;
        private int classes;
        private int starterKind;
        private long starterWord;

        Wiring() {
            needed = new int[MOST_NEEDS];
            low = new int[MOST_NEEDS];
            high = new int[MOST_NEEDS];
            words = new long[MOST_CLASSES];
            kinds = new int[MOST_CLASSES];
        }

        void reset() {
            needs = 0;
            classes = 0;
            setStarter(NO_STARTER, 0);
        }

        int addNeed(int q, int lowest, int highest) {
            if (needs >= MOST_NEEDS) {
                return FULL;
            }
            needed[needs] = q;
            low[needs] = lowest;
            high[needs] = highest;
            needs++;
            return needs;
        }

        int addClass(long w, int kind) {
            if (classes >= MOST_CLASSES) {
                return FULL;
            }
            words[classes] = w;
            kinds[classes] = kind;
            classes++;
            return classes;
        }

        /** No STARTER asks for nothing, whatever WORD comes with it. */
        void setStarter(int kind, long w) {
            starterKind = kind;
            starterWord = kind == NO_STARTER ? 0 : w;
        }

        void takeFrom(Wiring other) {
            reset();
            for (int i = 0; i < other.needs; i++) {
                addNeed(other.needed[i], other.low[i], other.high[i]);
            }
            for (int i = 0; i < other.classes; i++) {
                addClass(other.words[i], other.kinds[i]);
            }
            setStarter(other.starterKind, other.starterWord);
        }

        boolean needsPlugin(int q) {
            for (int i = 0; i < needs; i++) {
                if (needed[i] == q) {
                    return true;
                }
            }
            return false;
        }

        int firstClass(long w) {
            for (int i = 0; i < classes; i++) {
                if (words[i] == w) {
                    return i;
                }
            }
            return NONE;
        }
    }

    /** An ELEMENT; or, with DEPTH 0, the nothing that those of DEPTH 1 are in. */
    private static final class Element {
        private static final int MOST_ATTRIBUTES = 4;

        private final long[] names;
        private final long[] values;
        private int attributes;
        private int number;
        private int parent;
        private int outermost;
        private int depth;
        private long name;

        Element() {
            names = new long[MOST_ATTRIBUTES];
            values = new long[MOST_ATTRIBUTES];
            number = NONE;
            parent = NONE;
            outermost = NONE;
        }

        void beginIn(Element outer, int newNumber) {
            number = newNumber;
            parent = outer.number;
            depth = outer.depth + 1;
            outermost = depth == 1 ? newNumber : outer.outermost;
            name = 0;
            attributes = 0;
        }

        boolean takesAttribute() {
            return attributes < MOST_ATTRIBUTES;
        }

        void addAttribute(long itsName, long value) {
            if (takesAttribute()) {
                names[attributes] = itsName;
                values[attributes] = value;
                attributes++;
            }
        }

        boolean has(long itsName) {
            return valueOf(itsName) >= 0;
        }

        /** 0 for nothing, -1 for no such ATTRIBUTE; so it is a WORD if it is above 0. */
        long valueOf(long itsName) {
            for (int i = 0; i < attributes; i++) {
                if (names[i] == itsName) {
                    return values[i];
                }
            }
            return NONE;
        }
    }

    /** The ELEMENTS of a TEXT. */
    private static final class Tree {
        private final Element[] rows;
        private final Element nothing;
        private int size;

        Tree(Element nothing) {
            this.nothing = nothing;
            rows = new Element[ELEMENTS];
            for (int n = 0; n < ELEMENTS; n++) {
                rows[n] = new Element();
            }
        }

        void cut() {
            size = 0;
        }

        boolean hasRoom() {
            return size < ELEMENTS;
        }

        Element at(int number) {
            return number >= 0 && number < size ? rows[number] : nothing;
        }

        Element beginIn(Element outer) {
            if (!hasRoom()) {
                return outer;
            }
            Element begun = rows[size];
            begun.beginIn(outer, size);
            size++;
            return begun;
        }

        int childrenOf(int number) {
            int n = 0;
            for (int i = 0; i < size; i++) {
                if (rows[i].parent == number) {
                    n++;
                }
            }
            return n;
        }

        int childOf(int number, int k) {
            int before = 0;
            for (int i = 0; i < size; i++) {
                if (rows[i].parent == number) {
                    if (before == k) {
                        return i;
                    }
                    before++;
                }
            }
            return NONE;
        }
    }

    /**
     * Reads a TEXT into a tree. A letter is refused as soon as nothing behind it could make the TEXT WHOLE,
     * so that the first letter refused is the place of the FAULT.
     */
    private static final class Reader {
        private static final int MOST_DEPTH = 4;

        private static final int BETWEEN = 0;
        private static final int OPENED = 1;
        private static final int TAG_NAME = 2;
        private static final int TAG_SPACES = 3;
        private static final int ATTRIBUTE_NAME = 4;
        private static final int EQUALS_SIGN = 5;
        private static final int VALUE = 6;
        private static final int VALUE_END = 7;
        private static final int SLASH = 8;
        private static final int CLOSING_NAME = 9;
        private static final int CLOSING_SPACES = 10;

        private final Tree tree;
        private Element here;
        private int state;
        private long word;
        private int wordLength;
        private long attributeName;

        Reader(Tree tree) {
            this.tree = tree;
            here = tree.nothing;
        }

        int faultPlaceIn(byte[] letters, int length) {
            tree.cut();
            here = tree.nothing;
            state = BETWEEN;
            for (int i = 0; i < length && i < letters.length; i++) {
                if (!reads(letters[i])) {
                    return i;
                }
            }
            return state == BETWEEN && here.depth == 0 ? NONE : length;
        }

        private boolean reads(int c) {
            switch (state) {
                case BETWEEN: return readsBetween(c);
                case OPENED: return readsOpened(c);
                case TAG_NAME: return readsTagName(c);
                case TAG_SPACES: return readsTagSpaces(c);
                case ATTRIBUTE_NAME: return readsAttributeName(c);
                case EQUALS_SIGN: return c == '"' && beginWord(VALUE);
                case VALUE: return readsValue(c);
                case VALUE_END: return readsTagEnd(c);
                case SLASH: return c == '>' && close();
                case CLOSING_NAME: return readsClosingName(c);
                default: return readsClosingEnd(c);
            }
        }

        private boolean goTo(int next) {
            state = next;
            return true;
        }

        private boolean beginWord(int next) {
            word = 0;
            wordLength = 0;
            return goTo(next);
        }

        private boolean appendToWord(int c) {
            if (wordLength >= WORD_LETTERS) {
                return false;
            }
            word |= (long) c << 8 * wordLength;
            wordLength++;
            return true;
        }

        private boolean close() {
            here = tree.at(here.parent);
            return goTo(BETWEEN);
        }

        /** Within an ELEMENT < may begin its end, so only outside of all does it ask for room. */
        private boolean readsBetween(int c) {
            if (c == '<') {
                return (here.depth > 0 || tree.hasRoom()) && goTo(OPENED);
            }
            return isSpace(c);
        }

        private boolean readsOpened(int c) {
            if (c == '/') {
                return here.depth > 0 && beginWord(CLOSING_NAME);
            }
            if (!isNameLetter(c) || !tree.hasRoom() || here.depth >= MOST_DEPTH) {
                return false;
            }
            here = tree.beginIn(here);
            beginWord(TAG_NAME);
            return readsTagName(c);
        }

        private boolean readsTagName(int c) {
            if (!isNameLetter(c)) {
                return readsTagEnd(c);
            }
            boolean taken = appendToWord(c);
            here.name = word;
            return taken;
        }

        private boolean readsTagSpaces(int c) {
            if (!isNameLetter(c)) {
                return readsTagEnd(c);
            }
            return here.takesAttribute() && beginWord(ATTRIBUTE_NAME) && appendToWord(c);
        }

        private boolean readsTagEnd(int c) {
            switch (c) {
                case '/': return goTo(SLASH);
                case '>': return goTo(BETWEEN);
                default: return isSpace(c) && goTo(TAG_SPACES);
            }
        }

        /** A NAME that is there already may still grow into another one, unless it has all its letters. */
        private boolean readsAttributeName(int c) {
            if (isNameLetter(c)) {
                return appendToWord(c) && (wordLength < WORD_LETTERS || !here.has(word));
            }
            if (c != '=' || here.has(word)) {
                return false;
            }
            attributeName = word;
            return goTo(EQUALS_SIGN);
        }

        private boolean readsValue(int c) {
            if (c == '"') {
                here.addAttribute(attributeName, word);
                return goTo(VALUE_END);
            }
            return isWordLetter(c) && appendToWord(c);
        }

        private boolean readsClosingName(int c) {
            if (word == here.name) {
                return readsClosingEnd(c);
            }
            return c == octet(here.name, wordLength) && appendToWord(c);
        }

        private boolean readsClosingEnd(int c) {
            if (c == '>') {
                return close();
            }
            return isSpace(c) && goTo(CLOSING_SPACES);
        }

        private static boolean isSpace(int c) {
            return c == ' ' || c == '\n';
        }
    }

    /** A place for a PLUGIN, installed or not. */
    private static final class Plugin {
        private static final int ABSENT = 0;
        private static final int INSTALLED = 1;
        private static final int RESOLVED = 2;
        private static final int ACTIVE = 3;

        private final Wiring wiring;
        private final Tree tree;
        private final Reader reader;
        private boolean installed;
        private boolean resolved;
        private boolean starting;
        private boolean active;
        private int version;
        private int starts;
        private int faultPlace;
        private int faultLine;

        Plugin(Element nothing) {
            wiring = new Wiring();
            tree = new Tree(nothing);
            reader = new Reader(tree);
        }

        void install(Draft draft, int itsVersion) {
            installed = true;
            version = itsVersion;
            starts = 0;
            wiring.takeFrom(draft.wiring);
            faultPlace = reader.faultPlaceIn(draft.letters, draft.length);
            faultLine = NONE;
            if (faultPlace != NONE) {
                tree.cut();
                faultLine = lineAt(draft.letters, faultPlace);
            }
        }

        void uninstall() {
            installed = false;
            tree.cut();
        }

        int standing() {
            if (!installed) {
                return ABSENT;
            }
            if (!resolved) {
                return INSTALLED;
            }
            return active ? ACTIVE : RESOLVED;
        }

        int faults() {
            return faultPlace == NONE ? 0 : 1;
        }

        private static int lineAt(byte[] letters, int place) {
            int line = 1;
            for (int i = 0; i < place && i < letters.length; i++) {
                if (letters[i] == '\n') {
                    line++;
                }
            }
            return line;
        }
    }

    /** All PLUGINS: how they are RESOLVED, found, woken and stopped. */
    private static final class House {
        private final Plugin[] row;
        private final Element nothing;
        private final History stops;

        House() {
            nothing = new Element();
            row = new Plugin[PLUGINS];
            for (int p = 0; p < PLUGINS; p++) {
                row[p] = new Plugin(nothing);
            }
            stops = new History(16);
        }

        Element at(int handle) {
            return handle >= 0 && handle < HANDLES ? treeOf(handle).at(handle % ELEMENTS) : nothing;
        }

        boolean isHandle(int handle) {
            return at(handle).depth > 0;
        }

        /** The mask keeps every number within the row, also one that is no HANDLE. */
        Tree treeOf(int handle) {
            return row[handle / ELEMENTS & PLUGINS - 1].tree;
        }

        int standingAtLeast(int least) {
            int n = 0;
            for (Plugin each : row) {
                if (each.standing() >= least) {
                    n++;
                }
            }
            return n;
        }

        /** From all installed ones down, so that rings hold; a round that changes something takes one out. */
        void resolve() {
            for (Plugin each : row) {
                each.resolved = each.installed;
            }
            for (int round = 0; round < PLUGINS; round++) {
                for (int p = 0; p < PLUGINS; p++) {
                    row[p].resolved = row[p].resolved && firstUnmet(p) == 0;
                }
            }
        }

        int firstUnmet(int p) {
            Wiring wiring = row[p].wiring;
            for (int i = 0; i < wiring.needs; i++) {
                Plugin needed = row[wiring.needed[i]];
                if (!needed.resolved || needed.version < wiring.low[i] || needed.version > wiring.high[i]) {
                    return i + 1;
                }
            }
            return 0;
        }

        /** A CLASS that was found is told by one number, from which its PLUGIN and place come back. */
        int lookFor(int p, long word) {
            Wiring wiring = row[p].wiring;
            for (int i = 0; i < wiring.needs; i++) {
                int found = classIn(wiring.needed[i], word);
                if (found != NONE) {
                    return found;
                }
            }
            return classIn(p, word);
        }

        private int classIn(int p, long word) {
            int place = row[p].wiring.firstClass(word);
            return place == NONE ? NONE : p * Wiring.MOST_CLASSES + place;
        }

        static int ownerOf(int found) {
            return found / Wiring.MOST_CLASSES;
        }

        int kindOf(int found) {
            return row[ownerOf(found)].wiring.kinds[found % Wiring.MOST_CLASSES];
        }

        private boolean wakesFor(int found, int level) {
            return (kindOf(found) & Wiring.APART) != 0 || wakes(ownerOf(found), level);
        }

        /** Each level has one more PLUGIN that is STARTING, so no run needs more levels than there are PLUGINS. */
        private boolean wakes(int p, int level) {
            Plugin woken = row[p];
            if (woken.active || woken.starting) {
                return true;
            }
            if (level >= PLUGINS) {
                return false;
            }
            woken.starting = true;
            woken.starts++;
            woken.active = starterDoesWell(p, level);
            woken.starting = false;
            return woken.active;
        }

        /** One that fails does so only at its end: what it asked for is awake by then. */
        private boolean starterDoesWell(int p, int level) {
            Wiring wiring = row[p].wiring;
            if (wiring.starterWord != 0) {
                int found = lookFor(p, wiring.starterWord);
                if (found == NONE || !wakesFor(found, level + 1)) {
                    return false;
                }
            }
            return wiring.starterKind != Wiring.FAILING_STARTER;
        }

        void stopIfActive(int p) {
            if (row[p].active) {
                row[p].active = false;
                stops.note(p);
            }
        }

        void stopUnresolved() {
            for (int p = 0; p < PLUGINS; p++) {
                if (!row[p].resolved) {
                    stopIfActive(p);
                }
            }
        }

        int stopAll() {
            int before = stops.total;
            for (int round = 0; round < PLUGINS; round++) {
                int p = nextToStop();
                if (p != NONE) {
                    stopIfActive(p);
                }
            }
            return stops.total - before;
        }

        private int nextToStop() {
            int greatest = NONE;
            for (int p = PLUGINS - 1; p >= 0; p--) {
                if (row[p].active) {
                    if (!isNeededByOthers(p)) {
                        return p;
                    }
                    greatest = Math.max(greatest, p);
                }
            }
            return greatest;
        }

        private boolean isNeededByOthers(int p) {
            for (int q = 0; q < PLUGINS; q++) {
                if (q != p && row[q].active && row[q].wiring.needsPlugin(p)) {
                    return true;
                }
            }
            return false;
        }
    }

    /** Which ELEMENTS are POINTS and EXTENSIONS, by HANDLES. */
    private static final class Shelf {
        private final House house;
        private final boolean[] isPoint;
        private final boolean[] isExtension;
        private final boolean[] wasExtension;

        Shelf(House house) {
            this.house = house;
            isPoint = new boolean[HANDLES];
            isExtension = new boolean[HANDLES];
            wasExtension = new boolean[HANDLES];
        }

        int pointOf(long word) {
            for (int h = 0; h < HANDLES; h++) {
                if (isPoint[h] && house.at(h).valueOf(ID) == word) {
                    return h;
                }
            }
            return NONE;
        }

        int extensionsOf(long word) {
            int n = 0;
            for (int h = 0; h < HANDLES; h++) {
                if (isExtension[h] && house.at(h).valueOf(POINT) == word) {
                    n++;
                }
            }
            return n;
        }

        int extensionOf(long word, int k) {
            int before = 0;
            for (int h = 0; h < HANDLES; h++) {
                if (isExtension[h] && house.at(h).valueOf(POINT) == word) {
                    if (before == k) {
                        return h;
                    }
                    before++;
                }
            }
            return REFUSED;
        }

        boolean isWithinExtension(int handle) {
            return house.isHandle(handle) && isExtension[handleBeside(handle, house.at(handle).outermost)];
        }

        int refresh(History events) {
            markPoints();
            for (int h = 0; h < HANDLES; h++) {
                wasExtension[h] = isExtension[h];
                isExtension[h] = isResolvedOutermost(h, EXT) && fitsItsPoint(h);
            }
            return tell(events);
        }

        /** By HANDLES, each looking at those marked so far: the least one of a WORD stays the only one. */
        private void markPoints() {
            for (int h = 0; h < HANDLES; h++) {
                isPoint[h] = false;
            }
            for (int h = 0; h < HANDLES; h++) {
                long id = house.at(h).valueOf(ID);
                isPoint[h] = id > 0 && isResolvedOutermost(h, POINT) && pointOf(id) == NONE;
            }
        }

        private boolean isResolvedOutermost(int handle, long name) {
            Element asked = house.at(handle);
            return asked.depth == 1 && asked.name == name && house.row[handle / ELEMENTS].resolved;
        }

        private boolean fitsItsPoint(int handle) {
            int point = pointOf(house.at(handle).valueOf(POINT));
            if (point == NONE) {
                return false;
            }
            if (!hasItems(point)) {
                return true;
            }
            Tree tree = house.treeOf(handle);
            for (int n = 0; n < tree.size; n++) {
                if (tree.at(n).parent == handle % ELEMENTS && !fitsAnItem(tree.at(n), point)) {
                    return false;
                }
            }
            return true;
        }

        private boolean hasItems(int point) {
            Tree tree = house.treeOf(point);
            for (int n = 0; n < tree.size; n++) {
                if (isItemOf(tree.at(n), point)) {
                    return true;
                }
            }
            return false;
        }

        private boolean fitsAnItem(Element part, int point) {
            Tree tree = house.treeOf(point);
            for (int n = 0; n < tree.size; n++) {
                Element item = tree.at(n);
                if (isItemOf(item, point) && item.valueOf(NAME) == part.name) {
                    long must = item.valueOf(MUST);
                    return must <= 0 || part.has(must);
                }
            }
            return false;
        }

        private static boolean isItemOf(Element part, int point) {
            return part.parent == point % ELEMENTS && part.name == ITEM && part.valueOf(NAME) > 0;
        }

        private int tell(History events) {
            int before = events.total;
            for (int h = 0; h < HANDLES; h++) {
                if (wasExtension[h] && !isExtension[h]) {
                    events.note(h);
                }
            }
            for (int h = 0; h < HANDLES; h++) {
                if (isExtension[h] && !wasExtension[h]) {
                    events.note(h + HANDLES);
                }
            }
            return events.total - before;
        }
    }

    /** The objects that were made. */
    private static final class Made {
        private static final int MOST_OBJECTS = 24;

        private final int[] sources;
        private final int[] outermost;
        private final int[] owners;
        private final boolean[] dropped;
        private int total;

        Made() {
            sources = new int[MOST_OBJECTS];
            outermost = new int[MOST_OBJECTS];
            owners = new int[MOST_OBJECTS];
            dropped = new boolean[MOST_OBJECTS];
        }

        /** The outermost HANDLE is kept, as the ELEMENTS may be gone when the object is to be dropped. */
        int make(int source, int itsOutermost, int owner) {
            if (total >= MOST_OBJECTS) {
                return FULL;
            }
            sources[total] = source;
            outermost[total] = itsOutermost;
            owners[total] = owner;
            total++;
            return total - 1;
        }

        /** One that is not dropped was made within an EXTENSION, so where none is, one has ceased to be. */
        void dropOutside(boolean[] isExtension) {
            for (int n = 0; n < total; n++) {
                if (!isExtension[outermost[n]]) {
                    dropped[n] = true;
                }
            }
        }

        int kept() {
            return total - countTrue(dropped);
        }
    }

    /** How many there were, and the latest of them. */
    private static final class History {
        private final int[] latest;
        private int next;
        private int total;

        History(int room) {
            latest = new int[room];
        }

        void note(int what) {
            latest[next] = what;
            next = next + 1 < latest.length ? next + 1 : 0;
            total++;
        }

        int before(int k) {
            if (k < 0 || k >= latest.length || k >= total) {
                return REFUSED;
            }
            return latest[Math.floorMod(next - 1 - k, latest.length)];
        }
    }
}
