/** PLUGINS, sentence by sentence where one names an edge: RESOLVED, LOOKS FOR, WAKES, promises 7 to 9, 16, 17, 19 and 20. */
public final class WiringEdgesTest extends Asking {
    private static final int[] NO_PLUGINS = {LEAST, -256, -8, -1, 8, 9, 15, 16, 128, 256, MOST};

    public static void main(String[] args) {
        numbersOfPlugins();
        versions();
        addedTwice();
        addEmptiesTheDraft();
        removedOrNot();
        removeStopsIt();
        removeStopsByNumbers();
        removeStopsNoOthers();
        standings();
        notInstalled();
        otherQuestions();
        startsSinceAdded();
        firstNeedNotMet();
        versionsOfNeeds();
        chainsOfNeeds();
        chainsOfEight();
        ringsOfAnotherVersion();
        rings();
        needsOfItself();
        classesInOrder();
        firstClassCounts();
        onlyItsNeeds();
        wakesOnce();
        wakesNotApart();
        startersAsk();
        startersAskInOrder();
        startersAskForNoClass();
        startersThatFail();
        startersInARing();
        startersInARow();
        createOutside();
        createWithoutName();
        createWithoutClass();
        createNotAwake();
        createByKind();
        createIsFull();
        createFullOfDropped();
        objects();
        noObject();
        dropped();
        shutdownOfNone();
        shutdownByNumbers();
        shutdownByNeeds();
        shutdownOfRings();
        shutdownLeavesResolved();
        stopsLookedBack();
        latestSixteenStops();
        end();
    }

    private static void numbersOfPlugins() {
        sentence("PLUGINS 0..7 are installed or not");
        PluginHall hall = new PluginHall();
        for (int p = 0; p < 8; p++) {
            due("not " + p, hall.plugin(p, 0), 0);
            due("add " + p, hall.add(p, p), 0);
            due("installed " + p, hall.plugin(p, 0), 2);
            due("installed", hall.count(0), p + 1);
        }
        for (int p = 0; p < 8; p++) {
            due("its own version, " + p, hall.plugin(p, 1), p);
            due("remove " + p, hall.remove(p), 0);
            due("not any more, " + p, hall.plugin(p, 0), 0);
            due("installed", hall.count(0), 7 - p);
        }
    }

    private static void versions() {
        sentence("REFUSED if a number is out of range");
        for (int p : NO_PLUGINS) {
            due("add " + p, new PluginHall().add(p, 0), REFUSED);
        }
        for (int version : new int[] {LEAST, -256, -1, 256, 257, 511, 512, MOST}) {
            for (int p = 0; p < 8; p++) {
                PluginHall hall = new PluginHall();
                due("add of version " + version, hall.add(p, version), REFUSED);
                due("installed", hall.count(0), 0);
            }
        }
        sentence("PLUGIN p is installed with this version (0..255)");
        for (int version = 0; version <= 255; version++) {
            PluginHall hall = new PluginHall();
            due("add of version " + version, hall.add(version % 8, version), 0);
            due("version", hall.plugin(version % 8, 1), version);
        }
    }

    private static void addedTwice() {
        sentence("EXISTS if it is installed");
        for (int p = 0; p < 8; p++) {
            PluginHall hall = new PluginHall();
            install(hall, p, 3, "<a/>");
            write(hall, "<b/><c/>");
            due("add again, " + p, hall.add(p, 4), EXISTS);
            due("its version stays", hall.plugin(p, 1), 3);
            due("its ELEMENTS stay", hall.plugin(p, 6), 1);
            due("the DRAFT stays", hall.count(9), 8);
            due("removed", hall.remove(p), 0);
            due("add once more", hall.add(p, 5), 0);
            due("the DRAFT's ELEMENTS", hall.plugin(p, 6), 2);
        }
        PluginHall hall = new PluginHall();
        install(hall, 0, 0, "<");
        due("also with a FAULT", hall.add(0, 0), EXISTS);
        hall.need(7, 0, 0);
        hall.add(1, 0);
        due("also if it is not RESOLVED", hall.add(1, 0), EXISTS);
    }

    private static void addEmptiesTheDraft() {
        sentence("and what the DRAFT has, which is empty then");
        for (String text : new String[] {POINT_P + "<ext point=\"p\" c=\"k\"/>", "<"}) {
            PluginHall hall = new PluginHall();
            hall.need(7, 0, 0);
            hall.provide(word("k"), 1);
            hall.starter(2, word("missing"));
            install(hall, 1, 1, text);
            due("LETTERS", hall.count(9), 0);
            due("no NEEDS", hall.need(1, 1, 1), 1);
            due("no CLASSES", hall.provide(word("k"), 0), 1);
            install(hall, 0, 1, POINT_P + "<ext point=\"p\" c=\"k\"/>");
            due("no other NEED", hall.plugin(0, 7), 1);
            hall.remove(1);
            hall.add(1, 1);
            due("no other NEED", hall.plugin(0, 0), 2);
            due("no other CLASS, no STARTER", hall.create(1, word("c")), 0);
        }
    }

    private static void removedOrNot() {
        sentence("REFUSED if it is not installed");
        PluginHall hall = new PluginHall();
        for (int p : NO_PLUGINS) {
            due("remove " + p, hall.remove(p), REFUSED);
        }
        for (int p = 0; p < 8; p++) {
            due("remove " + p, hall.remove(p), REFUSED);
            hall.add(p, 0);
            due("remove " + p, hall.remove(p), 0);
            due("remove " + p + " again", hall.remove(p), REFUSED);
        }
    }

    private static void removeStopsIt() {
        sentence("PLUGIN p is removed: if it was ACTIVE it is stopped");
        PluginHall hall = hallNaming("k", 0, 0, "");
        hall.remove(0);
        due("it was not", hall.count(8), 0);
        hall = hallNaming("k", 0, 0, "");
        hall.create(1, word("c"));
        hall.remove(0);
        due("it was", hall.count(8), 1);
        due("it was", hall.stopped(0), 0);
        due("it is none any more", hall.count(2), 0);
        install(hall, 0, 1, POINT_P + "<ext point=\"p\" c=\"k\"/>");
        due("it comes again, asleep", hall.plugin(0, 0), 2);
    }

    /** Each PLUGIN NEEDS those in its row, and is ACTIVE, as the CLASS that its EXTENSION names has been made. */
    private static PluginHall allAwake(int[][] needs) {
        PluginHall hall = new PluginHall();
        for (int p = 0; p < needs.length; p++) {
            for (int q : needs[p]) {
                hall.need(q, 0, 9);
            }
            hall.provide(word("k" + p), 0);
            install(hall, p, 1, "<ext point=\"p\" c=\"k" + p + "\"/>" + (p == 0 ? POINT_P : ""));
        }
        for (int p = 0; p < needs.length; p++) {
            due("awake " + p, hall.create(16 * p, word("c")), p);
        }
        return hall;
    }

    private static void dueStops(PluginHall hall, int... order) {
        due("stops", hall.count(8), order.length);
        for (int i = 0; i < order.length; i++) {
            due("stop " + i, hall.stopped(order.length - 1 - i), order[i]);
        }
        due("no more", hall.stopped(order.length), REFUSED);
    }

    private static void removeStopsByNumbers() {
        sentence("then those that are ACTIVE, but not RESOLVED any more, by numbers");
        PluginHall hall = allAwake(new int[][] {{}, {4}, {3}, {1}, {}, {4}});
        hall.remove(4);
        dueStops(hall, 4, 1, 2, 3, 5);
        due("what stays ACTIVE", hall.count(2), 1);
        hall = allAwake(new int[][] {{}, {}, {7}, {7}, {7}, {7}, {7}, {}});
        hall.remove(7);
        dueStops(hall, 7, 2, 3, 4, 5, 6);
        hall = allAwake(new int[][] {{}, {2}, {1}});
        hall.remove(2);
        dueStops(hall, 2, 1);
        hall = allAwake(new int[][] {{}, {2}, {}});
        hall.shutdown();
        hall.remove(2);
        due("only ACTIVE ones", hall.count(8), 3);
    }

    private static void removeStopsNoOthers() {
        sentence("then those that are ACTIVE, but not RESOLVED any more");
        PluginHall hall = allAwake(new int[][] {{}, {}, {1}, {}});
        hall.remove(3);
        dueStops(hall, 3);
        due("the others", hall.count(2), 3);
        hall.remove(2);
        dueStops(hall, 3, 2);
        due("what is needed no more", hall.plugin(1, 0), 3);
        due("the others", hall.count(2), 2);
    }

    private static void standings() {
        sentence("Of PLUGIN p what 0: 0 not installed, 1 installed alone, 2 RESOLVED, 3 ACTIVE");
        PluginHall hall = new PluginHall();
        due("not installed", hall.plugin(0, 0), 0);
        hall.need(1, 0, 0);
        hall.provide(word("k"), 0);
        install(hall, 0, 0, POINT_P + "<ext point=\"p\" c=\"k\"/>");
        due("alone", hall.plugin(0, 0), 1);
        hall.add(1, 0);
        due("RESOLVED", hall.plugin(0, 0), 2);
        hall.create(1, word("c"));
        due("ACTIVE", hall.plugin(0, 0), 3);
        hall.remove(1);
        due("alone again", hall.plugin(0, 0), 1);
        hall.add(1, 0);
        due("only RESOLVED again", hall.plugin(0, 0), 2);
        hall.remove(0);
        due("not any more", hall.plugin(0, 0), 0);
    }

    private static void notInstalled() {
        sentence("0 for 1..7 if it is not installed");
        PluginHall hall = new PluginHall();
        hall.need(7, 9, 9);
        hall.provide(word("k"), 0);
        hall.starter(1, word("missing"));
        install(hall, 0, 200, "\n\n<");
        hall.add(7, 9);
        hall.remove(0);
        for (int p = 0; p < 7; p++) {
            for (int what = 1; what <= 7; what++) {
                due("plugin " + p + ", " + what, hall.plugin(p, what), 0);
            }
        }
        hall = hallNaming("k", 0, 0, "");
        hall.create(1, word("c"));
        hall.remove(0);
        for (int what = 0; what <= 7; what++) {
            due("that was ACTIVE, " + what, hall.plugin(0, what), 0);
        }
    }

    private static void otherQuestions() {
        sentence("REFUSED for others");
        PluginHall hall = new PluginHall();
        hall.add(0, 0);
        for (int p : NO_PLUGINS) {
            for (int what = 0; what <= 7; what++) {
                due("plugin " + p + ", " + what, hall.plugin(p, what), REFUSED);
            }
        }
        for (int what : new int[] {LEAST, -256, -8, -1, 8, 9, 16, 256, MOST}) {
            due("installed, what " + what, hall.plugin(0, what), REFUSED);
            due("not installed, what " + what, hall.plugin(1, what), REFUSED);
            due("neither, " + what, hall.plugin(what, what), REFUSED);
        }
    }

    private static void startsSinceAdded() {
        sentence("5: how often it was STARTING since it was added");
        PluginHall hall = hallNaming("k", 0, 2, "");
        due("never", hall.plugin(0, 5), 0);
        for (int n = 1; n <= 40; n++) {
            hall.create(1, word("c"));
            due("each time that it fails", hall.plugin(0, 5), n);
        }
        hall.remove(0);
        hall.provide(word("k"), 0);
        install(hall, 0, 1, POINT_P + "<ext point=\"p\" c=\"k\"/>");
        due("anew", hall.plugin(0, 5), 0);
        for (int n = 1; n <= 5; n++) {
            hall.create(1, word("c"));
            hall.create(1, word("c"));
            due("once while it is ACTIVE", hall.plugin(0, 5), n);
            hall.shutdown();
            due("stopping is no start", hall.plugin(0, 5), n);
        }
    }

    private static void firstNeedNotMet() {
        sentence("7: the number (1 the first) of its first NEED that is not met, 0 if there is none");
        for (int met = 0; met < 8; met++) {
            PluginHall hall = new PluginHall();
            for (int n = 1; n <= 3; n++) {
                hall.need(n, 5, 5);
            }
            hall.add(0, 0);
            for (int n = 1; n <= 3; n++) {
                hall.add(n, (met >> n - 1 & 1) == 1 ? 5 : 6);
            }
            int first = Integer.numberOfTrailingZeros(~met) + 1;
            due("met are the bits of " + met, hall.plugin(0, 7), first > 3 ? 0 : first);
            due("RESOLVED or not", hall.plugin(0, 0), met == 7 ? 2 : 1);
        }
        PluginHall hall = new PluginHall();
        hall.add(0, 0);
        due("no NEEDS", hall.plugin(0, 7), 0);
    }

    private static void versionsOfNeeds() {
        sentence("as long as one has a NEED whose PLUGIN is not RESOLVED, or not of a version within it, it is not");
        int[][] ranges = {{0, 0}, {0, 255}, {255, 255}, {1, 254}, {7, 9}, {127, 128}};
        for (int[] range : ranges) {
            for (int version : new int[] {0, 1, 6, 7, 8, 9, 10, 126, 127, 128, 129, 254, 255}) {
                PluginHall hall = new PluginHall();
                hall.need(1, range[0], range[1]);
                hall.add(0, 0);
                hall.add(1, version);
                boolean within = range[0] <= version && version <= range[1];
                due(version + " of " + range[0] + " to " + range[1], hall.plugin(0, 0), within ? 2 : 1);
            }
        }
    }

    private static void chainsOfNeeds() {
        sentence("RESOLVED are all installed PLUGINS but those that must not be");
        for (int down = 0; down <= 1; down++) {
            PluginHall hall = new PluginHall();
            for (int i = 0; i < 7; i++) {
                int p = down == 1 ? 7 - i : i;
                hall.need(down == 1 ? p - 1 : p + 1, 0, 0);
                hall.add(p, 0);
                due("none is, as the last lacks its NEED", hall.count(1), 0);
            }
            hall.add(down == 1 ? 0 : 7, 0);
            due("all eight are", hall.count(1), 8);
            hall.remove(down == 1 ? 0 : 7);
            due("none is again", hall.count(1), 0);
            for (int p = 1; p < 7; p++) {
                due("installed alone", hall.plugin(p, 0), 1);
            }
        }
    }

    /** The last of eight lacks something of its own, so that one after the other falls. */
    private static void chainsOfEight() {
        sentence("as long as one has a NEED whose PLUGIN is not RESOLVED");
        for (int down = 0; down <= 1; down++) {
            PluginHall hall = new PluginHall();
            for (int i = 0; i < 8; i++) {
                int p = down == 1 ? 7 - i : i;
                hall.need(i == 7 ? p : down == 1 ? p - 1 : p + 1, i == 7 ? 1 : 0, i == 7 ? 1 : 0);
                hall.add(p, 0);
            }
            due("installed", hall.count(0), 8);
            due("RESOLVED", hall.count(1), 0);
            for (int p = 0; p < 8; p++) {
                due("installed alone, " + p, hall.plugin(p, 0), 1);
                due("its first NEED, " + p, hall.plugin(p, 7), 1);
            }
        }
    }

    private static void ringsOfAnotherVersion() {
        sentence("or not of a version within it, it is not");
        for (int other = 0; other < 8; other++) {
            for (int step : new int[] {1, 3, 5, 7}) {
                PluginHall hall = new PluginHall();
                for (int p = 0; p < 8; p++) {
                    hall.need((p + step) % 8, 1, 1);
                    hall.add(p, p == other ? 2 : 1);
                }
                due("none, as " + other + " has another version", hall.count(1), 0);
                hall.remove(other);
                hall.need((other + step) % 8, 1, 1);
                hall.add(other, 1);
                due("all, as " + other + " has not", hall.count(1), 8);
            }
        }
    }

    private static void rings() {
        sentence("(Rings may be RESOLVED.)");
        PluginHall hall = new PluginHall();
        for (int p = 0; p < 8; p++) {
            hall.need((p + 1) % 8, 1, 1);
            hall.add(p, 1);
            due("all or none", hall.count(1), p < 7 ? 0 : 8);
        }
        hall.remove(5);
        due("none once one is gone", hall.count(1), 0);
        hall.need(6, 1, 1);
        hall.add(5, 2);
        due("none if one has another version", hall.count(1), 0);
        due("the one before it says so", hall.plugin(4, 7), 1);
    }

    private static void needsOfItself() {
        sentence("a NEED whose PLUGIN is not RESOLVED, or not of a version within it");
        PluginHall hall = new PluginHall();
        hall.need(0, 5, 5);
        hall.add(0, 5);
        due("its own version", hall.plugin(0, 0) * 10 + hall.plugin(0, 7), 20);
        hall.need(1, 5, 5);
        hall.add(1, 6);
        due("not its own version", hall.plugin(1, 0) * 10 + hall.plugin(1, 7), 11);
    }

    private static void classesInOrder() {
        sentence("A PLUGIN LOOKS FOR a WORD among the CLASSES of the PLUGINS that it NEEDS, in order, then among its own");
        int[] order = {3, 1, 2, 0};
        for (int bits = 0; bits < 16; bits++) {
            PluginHall hall = new PluginHall();
            int owner = -1;
            for (int i = 3; i >= 0; i--) {
                if ((bits >> i & 1) == 1) {
                    owner = order[i];
                }
            }
            for (int p = 1; p <= 3; p++) {
                provideIf(hall, (bits >> placeIn(order, p) & 1) == 1);
                hall.add(p, 0);
            }
            for (int i = 0; i < 3; i++) {
                hall.need(order[i], 0, 0);
            }
            provideIf(hall, (bits >> 3 & 1) == 1);
            install(hall, 0, 0, POINT_P + "<ext point=\"p\" c=\"k\"/>");
            due("those of the bits of " + bits + " have it", hall.create(1, word("c")), owner < 0 ? NO_CLASS : 0);
            due("the first one counts", hall.object(0, 1), owner < 0 ? REFUSED : owner);
        }
    }

    private static void provideIf(PluginHall hall, boolean asked) {
        hall.provide(word("other"), 5);
        if (asked) {
            hall.provide(word("k"), 4);
        }
    }

    private static int placeIn(int[] row, int what) {
        int place = 0;
        while (row[place] != what) {
            place++;
        }
        return place;
    }

    private static void firstClassCounts() {
        sentence("each time the first one counts");
        int[] answers = {0, BROKEN, OTHER_TYPE};
        for (int first = 0; first < 3; first++) {
            PluginHall hall = new PluginHall();
            for (int i = 0; i < 3; i++) {
                hall.provide(word("k"), (first + i) % 3);
            }
            install(hall, 0, 0, POINT_P + "<ext point=\"p\" c=\"k\"/>");
            due("its own", hall.create(1, word("c")), answers[first]);
            hall = new PluginHall();
            hall.provide(word("x"), 0);
            for (int i = 0; i < 3; i++) {
                hall.provide(word("k"), (first + i) % 3);
            }
            hall.add(5, 0);
            hall.need(5, 0, 0);
            hall.provide(word("k"), (first + 1) % 3);
            install(hall, 0, 0, POINT_P + "<ext point=\"p\" c=\"k\"/>");
            due("of what it NEEDS", hall.create(1, word("c")), answers[first]);
        }
    }

    private static void onlyItsNeeds() {
        sentence("among the CLASSES of the PLUGINS that it NEEDS");
        PluginHall hall = new PluginHall();
        hall.provide(word("far"), 0);
        hall.add(1, 0);
        hall.need(1, 0, 0);
        hall.provide(word("near"), 0);
        hall.add(2, 0);
        hall.provide(word("beside"), 0);
        hall.add(3, 0);
        hall.need(2, 0, 0);
        install(hall, 0, 0, POINT_P + "<ext point=\"p\" a=\"far\" b=\"near\" c=\"beside\"/>");
        due("what a NEED needs", hall.create(1, word("a")), NO_CLASS);
        due("what it needs not", hall.create(1, word("c")), NO_CLASS);
        due("what it needs", hall.create(1, word("b")), 0);
    }

    private static void wakesOnce() {
        sentence("if that is neither ACTIVE nor STARTING, it is STARTING, and its STARTER begins");
        PluginHall hall = hallNaming("k", 0, 1, "k");
        for (int n = 0; n < 3; n++) {
            due("made", hall.create(1, word("c")), n);
            due("STARTING once", hall.plugin(0, 5), 1);
            due("ACTIVE", hall.plugin(0, 0), 3);
        }
        hall = new PluginHall();
        hall.provide(word("k"), 0);
        hall.add(1, 0);
        hall.need(1, 0, 0);
        install(hall, 0, 0, POINT_P + "<ext point=\"p\" c=\"k\"/>");
        hall.create(1, word("c"));
        due("the PLUGIN of the CLASS", hall.plugin(1, 0), 3);
        due("not that of the ELEMENT", hall.plugin(0, 0), 2);
        due("not that of the ELEMENT", hall.plugin(0, 5), 0);
    }

    private static void wakesNotApart() {
        sentence("A CLASS that was found WAKES its PLUGIN, unless it is APART");
        int[] answers = {0, BROKEN, OTHER_TYPE};
        for (int kind = 0; kind < 3; kind++) {
            for (int starter = 0; starter < 3; starter++) {
                PluginHall hall = hallNaming("k", kind + 4, starter, "missing");
                due("APART, kind " + kind, hall.create(1, word("c")), answers[kind]);
                due("it sleeps", hall.plugin(0, 0), 2);
                due("it was not STARTING", hall.plugin(0, 5), 0);
                hall = hallNaming("k", kind, starter, "");
                due("kind " + kind, hall.create(1, word("c")), starter == 2 ? NOT_AWAKE : answers[kind]);
                due("it is awake or not", hall.plugin(0, 0), starter == 2 ? 2 : 3);
                due("it was STARTING", hall.plugin(0, 5), 1);
            }
        }
    }

    /** PLUGIN 0 NEEDS PLUGIN 1 and asks for its CLASS m. */
    private static PluginHall hallAsking(int kindOfM, int starterOf1, int starterOf0) {
        PluginHall hall = new PluginHall();
        hall.provide(word("m"), kindOfM);
        hall.starter(starterOf1, 0);
        hall.add(1, 0);
        hall.need(1, 0, 0);
        hall.provide(word("k"), 0);
        hall.starter(starterOf0, word("m"));
        install(hall, 0, 0, POINT_P + "<ext point=\"p\" c=\"k\"/>");
        return hall;
    }

    private static void startersAsk() {
        sentence("it LOOKS FOR the WORD that it asks for, if any, and that CLASS WAKES its PLUGIN likewise");
        for (int kind : new int[] {0, 1, 2}) {
            PluginHall hall = hallAsking(kind, 1, 1);
            due("made", hall.create(1, word("c")), 0);
            due("both are ACTIVE", hall.count(2), 2);
            due("once each", hall.plugin(0, 5) * 10 + hall.plugin(1, 5), 11);
            hall = hallAsking(kind + 4, 2, 1);
            due("made, what it asks for is APART", hall.create(1, word("c")), 0);
            due("one is ACTIVE", hall.count(2), 1);
            due("the other one was not STARTING", hall.plugin(1, 5), 0);
        }
        PluginHall hall = hallAsking(0, 1, 0);
        due("made", hall.create(1, word("c")), 0);
        due("none asks for nothing", hall.count(2), 1);
    }

    private static void startersAskInOrder() {
        sentence("it LOOKS FOR the WORD that it asks for");
        for (int failing = 0; failing <= 1; failing++) {
            PluginHall hall = new PluginHall();
            hall.provide(word("m"), 4 * (1 - failing));
            hall.starter(2, 0);
            hall.add(1, 0);
            hall.need(1, 0, 0);
            hall.provide(word("k"), 0);
            hall.provide(word("m"), 4 * failing);
            hall.starter(1, word("m"));
            install(hall, 0, 0, POINT_P + "<ext point=\"p\" c=\"k\"/>");
            due("first among what it NEEDS", hall.create(1, word("c")), failing == 1 ? NOT_AWAKE : 0);
            due("that was STARTING or not", hall.plugin(1, 5), failing);
        }
        PluginHall hall = new PluginHall();
        hall.provide(word("far"), 4);
        hall.add(1, 0);
        hall.need(1, 0, 0);
        hall.add(2, 0);
        hall.need(2, 0, 0);
        hall.provide(word("k"), 0);
        hall.starter(1, word("far"));
        install(hall, 0, 0, POINT_P + "<ext point=\"p\" c=\"k\"/>");
        due("not among what a NEED needs", hall.create(1, word("c")), NOT_AWAKE);
    }

    private static void startersAskForNoClass() {
        sentence("If there was no such CLASS");
        PluginHall hall = hallNaming("k", 0, 1, "missing");
        for (int n = 1; n <= 3; n++) {
            due("it does not wake", hall.create(1, word("c")), NOT_AWAKE);
            due("only RESOLVED again", hall.plugin(0, 0), 2);
            due("STARTING each time", hall.plugin(0, 5), n);
        }
        due("none was stopped", hall.count(8), 0);
    }

    private static void startersThatFail() {
        sentence("that PLUGIN did not wake, or the STARTER is one that fails, it did not wake, and is only RESOLVED again; else it is ACTIVE");
        PluginHall hall = hallAsking(0, 2, 1);
        due("what it asks for did not wake", hall.create(1, word("c")), NOT_AWAKE);
        due("none is ACTIVE", hall.count(2), 0);
        due("RESOLVED again", hall.plugin(0, 0) * 10 + hall.plugin(1, 0), 22);
        due("both were STARTING", hall.plugin(0, 5) * 10 + hall.plugin(1, 5), 11);
        hall = hallAsking(0, 1, 2);
        due("it fails itself", hall.create(1, word("c")), NOT_AWAKE);
        due("it is only RESOLVED again", hall.plugin(0, 0), 2);
        due("what it asked for is ACTIVE", hall.plugin(1, 0), 3);
        due("again", hall.create(1, word("c")), NOT_AWAKE);
        due("twice and once", hall.plugin(0, 5) * 10 + hall.plugin(1, 5), 21);
        due("none was stopped", hall.count(8), 0);
        due("nothing was made", hall.count(5), 0);
    }

    private static void startersInARing() {
        sentence("if that is neither ACTIVE nor STARTING");
        PluginHall hall = new PluginHall();
        for (int p = 7; p >= 0; p--) {
            hall.need((p + 1) % 8, 0, 0);
            hall.provide(word("k" + p), 0);
            hall.starter(1, word("k" + (p + 1) % 8));
            install(hall, p, 0, p > 0 ? "" : POINT_P + "<ext point=\"p\" c=\"k1\"/>");
        }
        due("eight in a ring", hall.create(1, word("c")), 0);
        due("all are ACTIVE", hall.count(2), 8);
        for (int p = 0; p < 8; p++) {
            due("once", hall.plugin(p, 5), 1);
        }
        due("it asks for its own", hallNaming("k", 0, 1, "k").create(1, word("c")), 0);
        due("its own, but it fails", hallNaming("k", 0, 2, "k").create(1, word("c")), NOT_AWAKE);
    }

    private static void startersInARow() {
        sentence("and that CLASS WAKES its PLUGIN likewise");
        for (int last = 0; last < 3; last++) {
            PluginHall hall = new PluginHall();
            for (int p = 7; p >= 0; p--) {
                if (p < 7) {
                    hall.need(p + 1, 0, 0);
                }
                hall.provide(word("k" + p), 0);
                hall.starter(p == 7 ? last : 1, p == 7 ? 0 : word("k" + (p + 1)));
                install(hall, p, 0, p > 0 ? "" : POINT_P + "<ext point=\"p\" c=\"k0\"/>");
            }
            due("eight in a row", hall.create(1, word("c")), last == 2 ? NOT_AWAKE : 0);
            due("all or none are ACTIVE", hall.count(2), last == 2 ? 0 : 8);
            for (int p = 0; p < 8; p++) {
                due("STARTING once", hall.plugin(p, 5), 1);
            }
        }
    }

    private static void createOutside() {
        sentence("Of an ELEMENT that is an EXTENSION, or in one (else REFUSED)");
        PluginHall hall = new PluginHall();
        hall.provide(word("k"), 0);
        install(hall, 0, 0, POINT_P.replace("/", " c=\"k\"/") + "<ext point=\"p\"><a><b><d c=\"k\"/></b></a></ext><x c=\"k\"/>");
        hall.provide(word("k"), 0);
        install(hall, 1, 0, "<ext point=\"q\" c=\"k\"/><a><ext point=\"p\" c=\"k\"/></a>");
        hall.provide(word("k"), 0);
        hall.need(7, 0, 0);
        install(hall, 2, 0, "<ext point=\"p\" c=\"k\"/>");
        for (int handle : new int[] {LEAST, LEAST + 4, -124, -12, -1, 0, 5, 6, 15, 16, 17, 18, 32, 33, 127, 128, 132, 260, MOST}) {
            due("create of " + handle, hall.create(handle, word("c")), REFUSED);
        }
        due("none is awake", hall.count(2), 0);
        due("nothing was made", hall.count(5), 0);
        due("the deepest one", hall.create(4, word("c")), 0);
    }

    private static void createWithoutName() {
        sentence("its ATTRIBUTE of that NAME must have a WORD (else NO_NAME)");
        PluginHall hall = new PluginHall();
        hall.provide(word("k"), 0);
        install(hall, 0, 0, POINT_P + "<ext point=\"p\" c=\"\"><a d=\"k\"/></ext>");
        due("nothing", hall.create(1, word("c")), NO_NAME);
        due("no such", hall.create(1, word("d")), NO_NAME);
        due("not of the outer one", hall.create(2, word("point")), NO_NAME);
        for (long name : new long[] {0, -1, 1, Long.MIN_VALUE, Long.MAX_VALUE, 'd' << 8, 'd' | 'd' << 16}) {
            due("no NAME " + name, hall.create(1, name), NO_NAME);
            due("no NAME " + name, hall.create(2, name), NO_NAME);
        }
        due("none is awake", hall.count(2), 0);
        due("a WORD", hall.create(2, word("d")), 0);
    }

    private static void createWithoutClass() {
        sentence("for which its PLUGIN LOOKS (NO_CLASS if there is none)");
        PluginHall hall = new PluginHall();
        install(hall, 0, 0, POINT_P + "<ext point=\"p\" c=\"k\"/>");
        due("no CLASSES at all", hall.create(1, word("c")), NO_CLASS);
        hall = hallNaming("kk", 0, 1, "");
        due("another WORD", hall.create(1, word("point")), NO_CLASS);
        due("it sleeps", hall.plugin(0, 0) * 10 + hall.plugin(0, 5), 20);
        due("nothing was made", hall.count(5), 0);
    }

    private static void createNotAwake() {
        sentence("the CLASS WAKES its PLUGIN (NOT_AWAKE if that did not wake)");
        for (int kind = 0; kind < 3; kind++) {
            PluginHall hall = hallNaming("k", kind, 2, "");
            due("kind " + kind, hall.create(1, word("c")), NOT_AWAKE);
            due("nothing was made", hall.count(5), 0);
            due("nothing was made", hall.object(0, 0), REFUSED);
            due("EVENTS stay", hall.count(7), 1);
        }
    }

    private static void createByKind() {
        int[] answers = {0, BROKEN, OTHER_TYPE, 0, 0, BROKEN, OTHER_TYPE};
        for (int kind : new int[] {0, 1, 2, 4, 5, 6}) {
            sentence("by its kind BROKEN or OTHER_TYPE");
            PluginHall hall = hallNaming("k", kind, 1, "");
            due("kind " + kind, hall.create(1, word("c")), answers[kind]);
            due("made or not", hall.count(5), answers[kind] == 0 ? 1 : 0);
            sentence("0 good, 1 it fails when it is made, 2 it is of another type; 4 more if it is APART");
            due("awake all the same, unless APART", hall.plugin(0, 0), kind < 4 ? 3 : 2);
        }
    }

    private static PluginHall hallOf24() {
        PluginHall hall = hallNaming("k", 0, 0, "");
        hall.provide(word("m"), 0);
        hall.provide(word("n"), 1);
        hall.starter(1, 0);
        install(hall, 1, 1, "<ext point=\"p\" c=\"m\" d=\"n\" e=\"missing\"/>");
        for (int n = 0; n < 24; n++) {
            due("object " + n, hall.create(1, word("c")), n);
        }
        return hall;
    }

    private static void createIsFull() {
        sentence("FULL if 24 objects were made; else a new object: its number, from 0 on");
        PluginHall hall = hallOf24();
        due("one too many", hall.create(1, word("c")), FULL);
        due("one too many again", hall.create(1, word("c")), FULL);
        due("how many", hall.count(5), 24);
        due("there is no other", hall.object(24, 0), REFUSED);
        due("the last one", hall.object(23, 0), 1);
        due("REFUSED still", hall.create(0, word("c")), REFUSED);
        due("NO_NAME still", hall.create(16, word("f")), NO_NAME);
        due("NO_CLASS still", hall.create(16, word("e")), NO_CLASS);
        due("BROKEN still", hall.create(16, word("d")), BROKEN);
        hall.shutdown();
        due("FULL", hall.create(16, word("c")), FULL);
        due("but awake", hall.plugin(1, 0), 3);
    }

    private static void createFullOfDropped() {
        sentence("FULL if 24 objects were made");
        PluginHall hall = hallOf24();
        hall.remove(0);
        due("all are dropped", hall.count(6), 0);
        hall.provide(word("k"), 0);
        install(hall, 0, 1, POINT_P + "<ext point=\"p\" c=\"k\"/>");
        due("they were made all the same", hall.create(1, word("c")), FULL);
        due("how many", hall.count(5), 24);
    }

    private static void objects() {
        sentence("Of object n what 0: the HANDLE of which it was made; 1: the PLUGIN of its CLASS; 2: 1, or 0 if it was dropped");
        PluginHall hall = new PluginHall();
        install(hall, 0, 0, POINT_P);
        hall.provide(word("m"), 4);
        hall.add(5, 0);
        hall.need(5, 0, 0);
        hall.provide(word("k"), 0);
        install(hall, 7, 0, "<a/>".repeat(12) + "<ext point=\"p\" c=\"k\"><a><b c=\"m\"/></a></ext>");
        due("made", hall.create(126, word("c")), 0);
        due("made", hall.create(124, word("c")), 1);
        int[][] answers = {{126, 5, 1}, {124, 7, 1}};
        for (int n = 0; n < 2; n++) {
            for (int what = 0; what < 3; what++) {
                due("object " + n + ", " + what, hall.object(n, what), answers[n][what]);
            }
        }
    }

    private static void noObject() {
        sentence("REFUSED for others");
        PluginHall hall = hallNaming("k", 0, 0, "");
        for (int what = 0; what < 3; what++) {
            due("none yet", hall.object(0, what), REFUSED);
        }
        hall.create(1, word("c"));
        hall.create(1, word("c"));
        for (int bad : new int[] {LEAST, -24, -1, 2, 3, 23, 24, 25, 256, MOST}) {
            for (int what = 0; what < 3; what++) {
                due("object " + bad, hall.object(bad, what), REFUSED);
            }
        }
        for (int bad : new int[] {LEAST, -256, -1, 3, 4, 256, MOST}) {
            due("what " + bad, hall.object(0, bad), REFUSED);
            due("what " + bad, hall.object(1, bad), REFUSED);
            due("neither " + bad, hall.object(bad, bad), REFUSED);
        }
        hall = hallOf24();
        for (int what = 0; what < 3; what++) {
            due("one too many", hall.object(24, what), REFUSED);
        }
    }

    private static void dropped() {
        sentence("Objects that were made of ELEMENTS that are, or are in, what is no EXTENSION any more are dropped");
        PluginHall hall = new PluginHall();
        install(hall, 4, 0, "<point id=\"p\"/><point id=\"q\"/>");
        hall.provide(word("k"), 0);
        install(hall, 1, 0, "<ext point=\"p\" c=\"k\"><a><b><c c=\"k\"/></b></a></ext><ext point=\"q\" c=\"k\"/>");
        int[] handles = {16, 19, 20};
        for (int n = 0; n < 3; n++) {
            due("made", hall.create(handles[n], word("c")), n);
        }
        install(hall, 0, 0, "<point id=\"p\"><item name=\"b\"/></point>");
        int[] kept = {0, 0, 1};
        for (int n = 0; n < 3; n++) {
            due("kept or dropped, " + n, hall.object(n, 2), kept[n]);
            due("its HANDLE stays", hall.object(n, 0), handles[n]);
            due("its PLUGIN stays", hall.object(n, 1), 1);
        }
        due("not dropped", hall.count(6), 1);
        hall.remove(0);
        due("an EXTENSION again", hall.element(16, 4), 1);
        due("dropped for good", hall.object(0, 2), 0);
        due("a new one", hall.create(16, word("c")), 3);
        hall.shutdown();
        due("stopping drops nothing", hall.count(6), 2);
        hall.remove(1);
        due("its PLUGIN is removed", hall.count(6), 0);
        hall.provide(word("k"), 0);
        install(hall, 1, 0, "<ext point=\"p\" c=\"k\"/>");
        due("nor do they come again", hall.count(6), 0);
        objectsOfOtherClasses();
    }

    private static void objectsOfOtherClasses() {
        PluginHall hall = new PluginHall();
        hall.provide(word("k"), 4);
        hall.add(5, 0);
        hall.need(5, 0, 0);
        install(hall, 0, 0, POINT_P + "<ext point=\"p\" c=\"k\"/>");
        hall.create(1, word("c"));
        hall.add(6, 0);
        hall.remove(6);
        due("what is another's", hall.object(0, 2), 1);
        hall.remove(5);
        due("the PLUGIN is not RESOLVED any more", hall.object(0, 2), 0);
    }

    private static void shutdownOfNone() {
        sentence("All that are ACTIVE are stopped");
        PluginHall hall = new PluginHall();
        due("no PLUGINS", hall.shutdown(), 0);
        hall = hallNaming("k", 0, 0, "");
        due("none is ACTIVE", hall.shutdown(), 0);
        hall.create(1, word("c"));
        due("one is", hall.shutdown(), 1);
        due("none again", hall.shutdown(), 0);
        due("stops", hall.count(8), 1);
    }

    private static void dueShutdown(int[][] needs, int... order) {
        PluginHall hall = allAwake(needs);
        due("how many", hall.shutdown(), order.length);
        dueStops(hall, order);
    }

    private static void shutdownByNumbers() {
        sentence("each time the one with the greatest number that no other ACTIVE one NEEDS");
        dueShutdown(new int[][] {{}, {}, {}, {}, {}, {}, {}, {}}, 7, 6, 5, 4, 3, 2, 1, 0);
        dueShutdown(new int[][] {{}, {0}, {1}, {2}}, 3, 2, 1, 0);
    }

    private static void shutdownByNeeds() {
        sentence("one after the other: each time the one with the greatest number that no other ACTIVE one NEEDS");
        dueShutdown(new int[][] {{1}, {2}, {3}, {4}, {5}, {6}, {7}, {}}, 0, 1, 2, 3, 4, 5, 6, 7);
        dueShutdown(new int[][] {{2}, {}, {}}, 1, 0, 2);
        dueShutdown(new int[][] {{}, {3}, {}, {}}, 2, 1, 3, 0);
        dueShutdown(new int[][] {{3, 4, 5}, {}, {}, {}, {}, {}}, 2, 1, 0, 5, 4, 3);
        dueShutdown(new int[][] {{0}, {1}, {2, 2, 2}}, 2, 1, 0);
        PluginHall hall = allAwake(new int[][] {{1}, {}});
        hall.shutdown();
        hall.create(16, word("c"));
        due("one that sleeps holds none", hall.shutdown(), 1);
        due("it was stopped", hall.stopped(0), 1);
    }

    private static void shutdownOfRings() {
        sentence("or, if there is none, the one with the greatest number: how many");
        dueShutdown(new int[][] {{1}, {0}}, 1, 0);
        dueShutdown(new int[][] {{1}, {2}, {0}}, 2, 0, 1);
        dueShutdown(new int[][] {{2}, {0}, {1}}, 2, 1, 0);
        dueShutdown(new int[][] {{1}, {0}, {3}, {2}}, 3, 2, 1, 0);
        dueShutdown(new int[][] {{1}, {0}, {}}, 2, 1, 0);
        dueShutdown(new int[][] {{1, 2}, {0}, {}}, 2, 1, 0);
    }

    private static void shutdownLeavesResolved() {
        sentence("All that are ACTIVE are stopped (RESOLVED still)");
        PluginHall hall = allAwake(new int[][] {{}, {0}, {1}});
        hall.shutdown();
        for (int p = 0; p < 3; p++) {
            due("RESOLVED " + p, hall.plugin(p, 0), 2);
        }
        int[] counts = {3, 3, 0, 3, 1, 3, 3, 3, 3, 0};
        for (int what = 0; what <= 9; what++) {
            due("count " + what, hall.count(what), counts[what]);
        }
        due("woken again", hall.create(16, word("c")), 3);
        due("STARTING again", hall.plugin(1, 5), 2);
    }

    private static void stopsLookedBack() {
        sentence("The PLUGIN that was stopped k before the latest (0 that one, of the latest 16); REFUSED if there is none");
        PluginHall hall = allAwake(new int[][] {{}, {}, {}});
        due("none yet", hall.stopped(0), REFUSED);
        hall.remove(1);
        due("one", hall.stopped(0), 1);
        due("no other", hall.stopped(1), REFUSED);
        hall.shutdown();
        int[] latest = {0, 2, 1};
        for (int k = 0; k < 3; k++) {
            due("stopped " + k, hall.stopped(k), latest[k]);
        }
        for (int k : new int[] {LEAST, -256, -16, -1, 3, 4, 15, 16, 256, MOST}) {
            due("stopped " + k, hall.stopped(k), REFUSED);
        }
        hall.remove(0);
        due("one that sleeps is not stopped", hall.count(8), 3);
    }

    private static void latestSixteenStops() {
        sentence("(0 that one, of the latest 16)");
        for (int stops = 14; stops <= 50; stops += stops < 18 ? 1 : 16) {
            PluginHall hall = new PluginHall();
            for (int p = 0; p < 3; p++) {
                hall.provide(word("k" + p), 0);
                install(hall, p, 1, "<ext point=\"p\" c=\"k" + p + "\"/>" + (p == 0 ? POINT_P : ""));
            }
            for (int n = 0; n < stops; n++) {
                hall.create(n % 3 * 16, word("c"));
                due("one", hall.shutdown(), 1);
            }
            due("stops so far", hall.count(8), stops);
            for (int k = 0; k < 20; k++) {
                due(stops + " stops, " + k + " before", hall.stopped(k), k < 16 && k < stops ? (stops - 1 - k) % 3 : REFUSED);
            }
            due("far before", hall.stopped(stops - 1), stops <= 16 ? 0 : REFUSED);
        }
    }
}
