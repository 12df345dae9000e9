import java.util.ArrayList;
import java.util.List;

/** Objects in a known state, and all that can be asked of one; each is used for far fewer than 512 calls. */
final class Realm {
    static final int NONE = -1, FEW_DEEDS = 3;
    static final String EIGHT = "3a;5f;0a;9f;2a;7f;1a;4f";

    private final List<String> told = new ArrayList<>();
    private final TwinKings kings;

    private Realm(TwinKings kings) {
        this.kings = kings;
    }

    static TwinKings empty() {
        return new TwinKings();
    }

    /** Three deeds, one row of each kind, a sheet of each form with two items, sheet 3 lost, the latest finding 5. */
    static TwinKings few() {
        TwinKings x = Check.kings("3a;5f;0a");
        x.sick(0, 2);
        x.leap(20);
        x.edict(0, 1);
        x.does(1, 0, 2);
        x.task(0, 1);
        x.seen(1, 1);
        x.book(3, 1, 1);
        for (int form = 0; form <= 2; form++) {
            x.sheet(form, form, 2);
            x.put(form, form, 1, 7 + form);
        }
        x.sheet(3, 0, -1);
        return x;
    }

    /** As much of everything as there may be; sheets 0 to 2 have 3, 60 and no items, the latest finding is 4. */
    static TwinKings full() {
        return filled(EIGHT);
    }

    /** Full as well, but its text has a fault in its last byte, so that there are no deeds. */
    static TwinKings faulty() {
        return filled("3a;5f;0a;9f;2a;7f;1a;4x");
    }

    static TwinKings byRule(int rule, String deeds) {
        TwinKings x = Check.kings(deeds);
        x.set(0, rule);
        return x;
    }

    /** Both kings allow both deeds on every day. */
    static TwinKings open() {
        return byRule(2, "9a;4a");
    }

    /** Both kings forbid both deeds, so Sundays alone are left. */
    static TwinKings closed() {
        return byRule(2, "9f;4f");
    }

    private static TwinKings filled(String deeds) {
        TwinKings x = Check.kings(deeds);
        x.set(0, 1);
        x.set(1, 2);
        for (int day = 0; day < 8; day++) {
            x.sick(day % 3 == 0 ? 1 : 0, 2 * day + 1);
        }
        int[] leaps = {6, 8, 20, 39};
        for (int day : leaps) {
            x.leap(day);
        }
        for (int k = 0; k < 10; k++) {
            x.edict(3 * k, k % 8);
        }
        for (int k = 0; k < 12; k++) {
            x.does(3 * k, k % 8, 1 + k % 5);
        }
        for (int k = 0; k < 6; k++) {
            x.task(7 - k, 1 + k % 2);
        }
        for (int k = 0; k < 8; k++) {
            x.seen(k % 2, 1);
            x.book(k, k, k % 2);
        }
        fillSheets(x);
        return x;
    }

    private static void fillSheets(TwinKings x) {
        x.sheet(0, 0, 3);
        x.put(0, 0, 2, -5);
        x.sheet(1, 1, 60);
        x.write(1);
        x.put(1, 1, 59, 300);
        x.sheet(2, 2, 0);
        x.copy(0, 0, 1, 0, 1);
    }

    /** What an object answers to all that can be asked of it, but count(8). Its sheets are lost by it. */
    static List<String> stateOf(TwinKings x) {
        Realm realm = new Realm(x);
        realm.tellCounts();
        realm.tellDays();
        realm.tellFinesAndTasks();
        for (int s = 0; s <= 3; s++) {
            realm.tellSheet(s);
        }
        realm.tellByChanging();
        return realm.told;
    }

    private void tell(String call, long answer) {
        told.add(call + " answers " + answer);
    }

    private void tellCounts() {
        for (int what = 0; what <= 7; what++) {
            tell("count(" + what + ")", kings.count(what));
        }
        tell("fault()", kings.fault());
        for (int k = 0; k < 8; k++) {
            tell("deed(" + k + ", 0)", kings.deed(k, 0));
        }
        tell("digest()", kings.digest());
    }

    private void tellDays() {
        for (int day = 0; day < 40; day++) {
            tell("rules(" + day + ")", kings.rules(day));
            tell("allows(" + day + ", 0)", kings.allows(day, 0));
            tell("allows(" + day + ", 1)", kings.allows(day, 1));
            tell("allowed(" + day + ")", kings.allowed(day));
        }
    }

    private void tellFinesAndTasks() {
        for (int k = 0; k < kings.count(5); k++) {
            tell("fined(" + k + ")", kings.fined(k));
        }
        for (int i = NONE; i <= 5; i++) {
            tell("finish(0, " + i + ")", kings.finish(0, i));
            tell("plan(0, " + i + ")", kings.plan(0, i));
        }
        tell("forged()", kings.forged());
        tell("when(NONE)", kings.when(NONE));
    }

    /** The realms hold no item that is the least int, so that one ends a sheet. */
    private void tellSheet(int s) {
        for (int form = 0; form <= 2; form++) {
            long item = 0;
            for (int i = 0; i <= 60 && item != Integer.MIN_VALUE; i++) {
                item = kings.get(s, form, i);
                tell("get(" + s + ", " + form + ", " + i + ")", item);
            }
            tell("the finding that ends it", kings.count(8));
        }
        tell("lose(" + s + ")", kings.lose(s));
    }

    /** What only a change can tell comes last. */
    private void tellByChanging() {
        tell("set(0, 0)", kings.set(0, 0));
        tell("set(1, 0)", kings.set(1, 0));
        tell("forget(0)", kings.forget(0));
        tell("forget(1)", kings.forget(1));
        tell("undo()", kings.undo());
        tell("wipe()", kings.wipe());
    }
}
