/** Promises 1 to 14: the text of the deeds, and what is told of days. */
public final class DeedsTest {
    private static final int NONE = -1, BAD = -2, NOT = -3, FULL = -4, NULL = -11;
    private static final Check CHECK = new Check();

    public static void main(String[] args) {
        newObject();
        type();
        wipe();
        undo();
        fault();
        deed();
        youngerByRule();
        set();
        sick();
        leap();
        edict();
        does();
        task();
        back();
        read();
        readStops();
        CHECK.end("DeedsTest");
    }

    private static void due(String call, long got, long want) {
        CHECK.due(call, got, want);
    }

    private static void newObject() {
        TwinKings x = new TwinKings();
        for (int what = 0; what <= 8; what++) {
            due("1: count(" + what + ")", x.count(what), 0);
        }
        due("1: fault", x.fault(), NONE);
        due("1: set(0, 0) tells the first rule", x.set(0, 0), 0);
        due("1: set(1, 0) tells the first court", x.set(1, 0), 0);
        for (int s = 0; s < 4; s++) {
            due("1: sheet " + s + " is lost", x.lose(s), NULL);
        }
        TwinKings y = Check.kings("1a");
        due("1: another object is its own", y.count(0) - x.count(0), 1);
    }

    private static void type() {
        TwinKings x = new TwinKings();
        due("2: below", x.type(-1), BAD);
        due("2: above", x.type(256), BAD);
        due("2: 0", x.type(0), 1);
        due("2: 255", x.type(255), 2);
        for (int k = 3; k <= 23; k++) {
            due("2: byte " + k, x.type('1'), k);
        }
        due("2: full", x.type('1'), FULL);
        due("2: bad comes ahead of full", x.type(256), BAD);
        due("2: refusals change nothing", x.count(1), 23);
    }

    private static void wipe() {
        TwinKings x = Check.kings("1a;2f");
        due("3: wipe", x.wipe(), 5);
        due("3: no deeds", x.count(0), 0);
        due("3: wipe of nothing", x.wipe(), 0);
        due("3: nothing allowed", x.allowed(6), 0);
        due("3: room again", x.type('1'), 1);
        x.type('f');
        due("3: nothing is left of what was allowed", x.deed(0, 1), 0);
        TwinKings broken = Check.kings("xyz");
        due("3: a text with a fault", broken.wipe(), 3);
        due("3: no fault left", broken.fault(), NONE);
    }

    private static void undo() {
        TwinKings x = Check.kings("1a;2f");
        due("4: undo", x.undo(), 4);
        due("4: fault then", x.fault(), 4);
        due("4: undo", x.undo(), 3);
        due("4: undo", x.undo(), 2);
        due("4: one deed is whole again", x.count(0), 1);
        due("4: undo", x.undo(), 1);
        due("4: undo", x.undo(), 0);
        due("4: none", x.undo(), NOT);
        due("4: none, again", x.count(1), 0);
    }

    private static void faultOf(String deeds, int place) {
        TwinKings x = Check.kings(deeds);
        due("5: fault of '" + deeds + "'", x.fault(), place);
        due("5: deeds of '" + deeds + "'", x.count(0), place == NONE ? (deeds.length() + 1) / 3 : 0);
    }

    private static void fault() {
        faultOf("", NONE);
        faultOf("0a", NONE);
        faultOf("9f", NONE);
        faultOf("1", 1);
        faultOf("1a;", 3);
        faultOf("1a;2", 4);
        faultOf("a1", 0);
        faultOf("/a", 0);
        faultOf(":a", 0);
        faultOf(";", 0);
        faultOf("12", 1);
        faultOf("1A", 1);
        faultOf("1F", 1);
        faultOf("1b", 1);
        faultOf("1e", 1);
        faultOf("1g", 1);
        faultOf("1a1a", 2);
        faultOf("1a:1a", 2);
        faultOf("1a;;a", 3);
        faultOf("1a;1a;x", 6);
        faultOf("1a;2f;3a;4f;5a;6f;7a;8f", NONE);
        faultOf("1a;2f;3a;4f;5a;6f;7a;8", 22);
        faultOf("1a;2f;3a;4f;5a;6f;7a;8x", 22);
        faultOf("1a;2f;3x;4f;5a;6f;7a;8f", 7);
    }

    private static void deed() {
        TwinKings x = Check.kings("0a;9f;4a");
        due("6: fine 0", x.deed(0, 0), 0);
        due("6: fine 9", x.deed(1, 0), 9);
        due("6: fine 4", x.deed(2, 0), 4);
        due("6: elder allows", x.deed(0, 1), 1);
        due("6: elder forbids", x.deed(1, 1), 0);
        due("6: younger forbids", x.deed(0, 2), 0);
        due("6: younger allows", x.deed(1, 2), 1);
        due("6: deed below", x.deed(-1, 0), BAD);
        due("6: no such deed", x.deed(3, 0), BAD);
        due("6: what below", x.deed(0, -1), BAD);
        due("6: what above", x.deed(0, 3), BAD);
        x.edict(0, 0);
        due("6: at first, whatever the edicts", x.deed(0, 1), 1);
        x.type(';');
        due("6: none with a fault", x.deed(0, 0), BAD);
    }

    private static void youngerByRule() {
        String deeds = "1a;1a;1f;1a;1f";
        int[][] younger = {{0, 0, 1, 0, 1}, {1, 1, 1, 0, 1}, {1, 0, 1, 0, 1}};
        TwinKings x = Check.kings(deeds);
        for (int rule = 0; rule <= 2; rule++) {
            x.set(0, rule);
            for (int k = 0; k < 5; k++) {
                due("6: younger by rule " + rule + " of deed " + k, x.deed(k, 2), younger[rule][k]);
            }
        }
        TwinKings alone = Check.kings("1a");
        alone.set(0, 1);
        due("6: one alone, rule 1: the other way about", alone.deed(0, 2), 0);
        alone.set(0, 2);
        due("6: one alone, rule 2: of deed 0", alone.deed(0, 2), 1);
    }

    private static void set() {
        TwinKings x = new TwinKings();
        due("7: rule was", x.set(0, 2), 0);
        due("7: rule was", x.set(0, 1), 2);
        due("7: court was", x.set(1, 1), 0);
        due("7: court was", x.set(1, 2), 1);
        due("7: rule is its own", x.set(0, 0), 1);
        due("7: what below", x.set(-1, 0), BAD);
        due("7: what above", x.set(2, 0), BAD);
        due("7: v below", x.set(0, -1), BAD);
        due("7: v above", x.set(0, 3), BAD);
        due("7: v above, court", x.set(1, 3), BAD);
        due("7: refusals change nothing", x.set(1, 0), 2);
        due("7: refusals change nothing", x.set(0, 0), 0);
    }

    private static void sick() {
        TwinKings x = new TwinKings();
        due("8: king below", x.sick(-1, 0), BAD);
        due("8: king above", x.sick(2, 0), BAD);
        due("8: day below", x.sick(0, -1), BAD);
        due("8: day above", x.sick(0, 40), BAD);
        due("8: last day", x.sick(1, 39), 1);
        due("8: the other one rules", x.rules(39), 0);
        for (int k = 2; k <= 8; k++) {
            due("8: the same again", x.sick(0, 0), k);
        }
        due("8: full", x.sick(0, 1), FULL);
        due("8: bad ahead of full", x.sick(0, 40), BAD);
        due("8: how many", x.count(2), 8);
    }

    private static void leap() {
        TwinKings x = new TwinKings();
        due("9: below", x.leap(-1), BAD);
        due("9: above", x.leap(40), BAD);
        due("9: last day", x.leap(39), 1);
        due("9: both rule", x.rules(39), 2);
        due("9: the same again", x.leap(39), 2);
        due("9: third", x.leap(0), 3);
        due("9: fourth", x.leap(6), 4);
        due("9: full", x.leap(7), FULL);
        due("9: bad ahead of full", x.leap(40), BAD);
        due("9: how many", x.count(3), 4);
    }

    private static void edict() {
        TwinKings x = Check.kings("1a");
        due("10: day below", x.edict(-1, 0), BAD);
        due("10: day above", x.edict(40, 0), BAD);
        due("10: deed below", x.edict(0, -1), BAD);
        due("10: deed above", x.edict(0, 8), BAD);
        due("10: a deed that there is not", x.edict(0, 7), 1);
        due("10: last day", x.edict(39, 0), 2);
        for (int k = 3; k <= 10; k++) {
            due("10: edict " + k, x.edict(0, 0), k);
        }
        due("10: full", x.edict(0, 0), FULL);
        due("10: bad ahead of full", x.edict(40, 0), BAD);
        due("10: how many", x.count(4), 10);
        due("10: eight of the same undo one another", x.allows(1, 0), 1);
    }

    private static void does() {
        TwinKings x = new TwinKings();
        due("11: day below", x.does(-1, 0, 1), BAD);
        due("11: day above", x.does(40, 0, 1), BAD);
        due("11: deed below", x.does(0, -1, 1), BAD);
        due("11: deed above", x.does(0, 8, 1), BAD);
        due("11: no days", x.does(0, 0, 0), BAD);
        due("11: no days, later", x.does(5, 0, 0), BAD);
        due("11: too many days", x.does(0, 0, 6), BAD);
        due("11: beyond day 39", x.does(36, 0, 5), BAD);
        due("11: days that would wrap", x.does(39, 0, Integer.MAX_VALUE), BAD);
        due("11: up to day 39", x.does(35, 0, 5), 1);
        due("11: one day", x.does(39, 7, 1), 2);
        for (int k = 3; k <= 12; k++) {
            due("11: done " + k, x.does(0, 0, 1), k);
        }
        due("11: full", x.does(0, 0, 1), FULL);
        due("11: bad ahead of full", x.does(39, 0, 2), BAD);
        due("11: how many", x.count(5), 12);
    }

    private static void task() {
        TwinKings x = new TwinKings();
        due("12: deed below", x.task(-1, 1), BAD);
        due("12: deed above", x.task(8, 1), BAD);
        due("12: no days", x.task(0, 0), BAD);
        due("12: too many days", x.task(0, 6), BAD);
        for (int k = 1; k <= 6; k++) {
            due("12: task " + k, x.task(7, k == 1 ? 1 : 5), k);
        }
        due("12: full", x.task(0, 1), FULL);
        due("12: bad ahead of full", x.task(8, 1), BAD);
        due("12: how many", x.count(6), 6);
    }

    private static void back() {
        TwinKings x = Check.kings("1a");
        for (int what = 0; what <= 4; what++) {
            due("13: none of " + what, x.back(what), NOT);
        }
        due("13: below", x.back(-1), BAD);
        due("13: above", x.back(5), BAD);
        x.sick(0, 0);
        x.sick(0, 2);
        x.leap(4);
        x.leap(8);
        x.edict(1, 0);
        x.edict(10, 0);
        x.does(0, 0, 1);
        x.does(1, 0, 1);
        x.task(0, 1);
        x.task(0, 2);
        for (int what = 0; what <= 4; what++) {
            due("13: one left of " + what, x.back(what), 1);
        }
        due("13: the first sick stays", x.rules(0), 1);
        due("13: the last sick is undone", x.rules(2), 0);
        due("13: the first leap stays", x.rules(4), 2);
        due("13: the last leap is undone", x.rules(8), 0);
        due("13: the first edict stays", x.allows(2, 1), 1);
        due("13: the last edict is undone", x.allows(11, 0), 1);
        due("13: the last done is undone", x.fined(1), BAD);
        due("13: the last task is undone", x.finish(0, NONE), 2);
        for (int what = 0; what <= 4; what++) {
            due("13: none left of " + what, x.back(what), 0);
            due("13: none of " + what, x.back(what), NOT);
        }
    }

    private static void read() {
        TwinKings x = Check.kings("1a;1f");
        due("14: sheet below", x.read(-1), BAD);
        due("14: sheet above", x.read(4), BAD);
        due("14: bad is no finding", x.count(8), 0);
        due("14: lost", x.read(0), NULL);
        due("14: the finding", x.count(8), 1);
        x.sheet(0, 1, 5);
        int[] items = {0, 0, 2, 1, 4};
        for (int i = 0; i < items.length; i++) {
            x.put(0, 1, i, items[i]);
        }
        due("14: two whole ones", x.read(0), 2);
        due("14: edict of day 0", x.allows(1, 0), 0);
        due("14: edict of day 2", x.allows(3, 0), 2);
        due("14: they come behind those told", x.read(0), 2);
        due("14: how many there are", x.count(4), 4);
        due("14: undone by the same", x.allows(3, 0), 1);
        x.sheet(0, 2, 1);
        due("14: none is whole", x.read(0), 0);
        x.sheet(0, 2, 0);
        due("14: no items", x.read(0), 0);
    }

    private static void readStops() {
        TwinKings x = Check.kings("1a;1f");
        x.sheet(1, 2, 6);
        x.put(1, 2, 2, 40);
        due("14: as long as each may be: the day", x.read(1), 1);
        x.put(1, 2, 2, 39);
        x.put(1, 2, 3, 8);
        due("14: as long as each may be: the deed", x.read(1), 1);
        x.put(1, 2, 3, -1);
        due("14: as long as each may be: below", x.read(1), 1);
        x.put(1, 2, 3, 7);
        due("14: all", x.read(1), 3);
        due("14: how many by now", x.count(4), 6);
        due("14: all", x.read(1), 3);
        due("14: as long as there is room", x.read(1), 1);
        due("14: full", x.read(1), 0);
        due("14: ten", x.count(4), 10);
        x.sheet(2, 0, 2);
        x.put(2, 0, 0, 256 + 3);
        x.back(2);
        due("14: items as their form has cut them", x.read(2), 1);
    }
}
