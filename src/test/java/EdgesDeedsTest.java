/** Promises 1 to 14 at their edges: the text of the deeds, and what is told of days. */
public final class EdgesDeedsTest {
    private static final int NONE = -1, BAD = -2, NOT = -3, FULL = -4;
    private static final Edges EDGES = new Edges();

    public static void main(String[] args) {
        newObject();
        newObjectsSheets();
        type();
        wipe();
        undo();
        faultByEachByte();
        faultIsTheFirst();
        faultLeavesNone();
        deed();
        deedByRule();
        set();
        sick();
        leap();
        edict();
        edictsOfDeeds();
        does();
        task();
        back();
        heardAtOnce();
        readRefused();
        readWholePairs();
        readAsLongAsEachMayBe();
        readAsLongAsThereIsRoom();
        EDGES.end("EdgesDeedsTest");
    }

    private static void due(String call, long got, long want) {
        EDGES.due(call, got, want);
    }

    // ---- promise 1

    private static void newObject() {
        TwinKings x = new TwinKings();
        for (int what = 0; what <= 8; what++) {
            due("1: count(" + what + ")", x.count(what), 0);
        }
        due("1: an empty text is well", x.fault(), NONE);
        due("1: no bytes", x.wipe(), 0);
        due("1: no byte to undo", x.undo(), NOT);
        for (int what = 0; what <= 4; what++) {
            due("1: no row of " + what, x.back(what), NOT);
        }
        due("1: nothing was seen", x.forget(0), 0);
        due("1: nothing is booked", x.forget(1), 0);
        due("1: the rule is 0 at first", x.set(0, 1), 0);
        due("1: the court is 0 at first", x.set(1, 1), 0);
        due("1: another object is as new", new TwinKings().set(0, 0), 0);
    }

    private static void newObjectsSheets() {
        for (int k = 0; k <= 3; k++) {
            int s = k;
            EDGES.finds("1: lose(" + s + ")", Realm::empty, x -> x.lose(s), Edges.NULL);
            EDGES.finds("1: read(" + s + ")", Realm::empty, x -> x.read(s), Edges.NULL);
            EDGES.finds("1: write(" + s + ")", Realm::empty, x -> x.write(s), Edges.NULL);
            EDGES.finds("1: put on " + s, Realm::empty, x -> x.put(s, 0, 0, 1), Edges.NULL);
            EDGES.finds("1: get from " + s, Realm::empty, x -> x.get(s, 0, 0), Edges.LEAST, 1);
            EDGES.finds("1: copy of " + s, Realm::empty, x -> x.copy(s, 0, s, 0, 0), Edges.NULL);
        }
    }

    // ---- promises 2 to 5: the text

    private static void type() {
        EDGES.takes("2: type", 0, 255, TwinKings::type);
        TwinKings x = new TwinKings();
        for (int k = 1; k <= 23; k++) {
            due("2: byte " + k, x.type(k % 2 == 0 ? 0 : 255), k);
        }
        due("2: a byte more", x.type(0), FULL);
        due("2: bytes", x.count(1), 23);
        due("2: one is undone", x.undo(), 22);
        due("2: room for one", x.type('1'), 23);
        due("2: no room for two", x.type('1'), FULL);
        EDGES.keeps("2: the least byte in a full text", Realm::full, y -> y.type(0), FULL);
        EDGES.keeps("2: the greatest byte in a full text", Realm::full, y -> y.type(255), FULL);
        EDGES.keeps("2: a well byte in a full text", Realm::full, y -> y.type(';'), FULL);
        EDGES.keeps("2: a full text with a fault", Realm::faulty, y -> y.type('a'), FULL);
    }

    private static void wipe() {
        EDGES.keeps("3: wipe of an empty text", Realm::empty, TwinKings::wipe, 0);
        TwinKings one = Check.kings("1");
        due("3: wipe of one byte", one.wipe(), 1);
        due("3: and of none", one.wipe(), 0);
        TwinKings x = Realm.full();
        due("3: wipe of a full text", x.wipe(), 23);
        int[] left = {0, 0, 8, 4, 10, 12, 6, 16, 4};
        for (int what = 0; what <= 8; what++) {
            due("3: deeds alone are empty, count(" + what + ")", x.count(what), left[what]);
        }
        due("3: the rule stays", x.set(0, 0), 1);
        due("3: the court stays", x.set(1, 0), 2);
        for (int k = 1; k <= 23; k++) {
            due("3: room for byte " + k, x.type('1'), k);
        }
        due("3: and for no more", x.type('1'), FULL);
        due("3: wipe of a text with a fault", x.wipe(), 23);
        due("3: an empty text is well", x.fault(), NONE);
    }

    private static void undo() {
        EDGES.keeps("4: undo of an empty text", Realm::empty, TwinKings::undo, NOT);
        TwinKings x = Realm.full();
        for (int k = 22; k >= 0; k--) {
            due("4: left", x.undo(), k);
            boolean ended = k % 3 == 2;
            due("4: the text of " + k + " bytes is well, or its end is told", x.fault(), k == 0 || ended ? NONE : k);
            due("4: the deeds that are left", x.count(0), ended ? (k + 1) / 3 : 0);
        }
        due("4: none is left", x.undo(), NOT);
        due("4: and again", x.undo(), NOT);
        due("4: no bytes", x.count(1), 0);
        TwinKings wiped = Realm.few();
        wiped.wipe();
        due("4: none behind a wipe", wiped.undo(), NOT);
    }

    private static boolean fits(int place, int b) {
        if (place % 3 == 0) {
            return b >= '0' && b <= '9';
        }
        return place % 3 == 1 ? b == 'a' || b == 'f' : b == ';';
    }

    /** Each of the 256 bytes at each of the 23 places, behind bytes that are well. */
    private static void faultByEachByte() {
        for (int place = 0; place < 23; place++) {
            int end = place % 3 == 1 ? NONE : place + 1;
            for (int b = 0; b <= 255; b++) {
                TwinKings x = Check.kings(Realm.EIGHT.substring(0, place));
                x.type(b);
                due("5: byte " + b + " at " + place, x.fault(), fits(place, b) ? end : place);
            }
        }
    }

    private static void faultIsTheFirst() {
        due("5: at the first byte", Check.kings("xx;xx").fault(), 0);
        due("5: of two", Check.kings("1x;x").fault(), 1);
        due("5: of many", Check.kings("1a,,,,").fault(), 2);
        due("5: what comes behind does not mend it", Check.kings("1a;a;1a").fault(), 3);
        due("5: a full text of eight", Check.kings(Realm.EIGHT).fault(), NONE);
        due("5: a full text, its last byte", Realm.faulty().fault(), 22);
        due("5: a full text, its first byte", Check.kings("x" + Realm.EIGHT.substring(1)).fault(), 0);
        TwinKings x = Check.kings(Realm.EIGHT);
        x.type(';');
        due("5: a ninth does not come in", x.fault(), NONE);
        due("5: eight there are", x.count(0), 8);
    }

    private static void faultLeavesNone() {
        TwinKings x = Check.kings("1a;2f");
        due("5: two deeds", x.count(0), 2);
        x.type(';');
        due("5: not ended: none", x.count(0), 0);
        due("5: none is allowed on a Sunday", x.allowed(6), 0);
        due("5: none by a king", x.allows(0, 0) | x.allows(0, 1), 0);
        due("5: both kings are alike", x.alike(), 0);
        due("5: no deed to ask for", x.ask(), NONE);
        due("5: no lots", x.year(1, 40, 0), 0);
        x.undo();
        due("5: mended", x.count(0), 2);
        due("5: allowed again", x.allowed(6), 3);
    }

    // ---- promises 6 and 7

    private static void deed() {
        for (int what = 0; what <= 2; what++) {
            int asked = what;
            EDGES.takesDeed("6: deed, what " + what, (x, v) -> x.deed(v, asked));
        }
        EDGES.takes("6: what", 0, 2, (x, v) -> x.deed(0, v));
        TwinKings x = Check.kings("0a;1f;8a;9f;0f;9a;5a;4f");
        int[][] due = {{0, 1, 8, 9, 0, 9, 5, 4}, {1, 0, 1, 0, 0, 1, 1, 0}, {0, 1, 0, 1, 1, 0, 0, 1}};
        for (int what = 0; what <= 2; what++) {
            for (int k = 0; k < 8; k++) {
                due("6: deed(" + k + ", " + what + ")", x.deed(k, what), due[what][k]);
            }
        }
    }

    /** What the younger says of each deed, by how many there are: the last is alone by rule 1, or wraps by rule 2. */
    private static void deedByRule() {
        String deeds = "1a;1a;1f;1a;1a;1f;1f;1a";
        int[] elder = {1, 1, 0, 1, 1, 0, 0, 1};
        for (int number = 1; number <= 8; number++) {
            TwinKings x = Check.kings(deeds.substring(0, 3 * number - 1));
            for (int k = 0; k < number; k++) {
                int pair = k % 2 == 0 ? k + 1 : k - 1;
                int next = k == number - 1 ? 0 : k + 1;
                x.set(0, 0);
                due("6: rule 0, deed " + k + " of " + number, x.deed(k, 2), 1 - elder[k]);
                x.set(0, 1);
                due("6: rule 1, deed " + k + " of " + number, x.deed(k, 2), pair < number ? elder[pair] : 1 - elder[k]);
                x.set(0, 2);
                due("6: rule 2, deed " + k + " of " + number, x.deed(k, 2), elder[next]);
            }
        }
    }

    private static void set() {
        EDGES.takes("7: what", 0, 1, (x, v) -> x.set(v, 0));
        EDGES.takes("7: a rule", 0, 2, (x, v) -> x.set(0, v));
        EDGES.takes("7: a court", 0, 2, (x, v) -> x.set(1, v));
        for (int what = 0; what <= 1; what++) {
            TwinKings x = new TwinKings();
            int was = 0;
            int[] rows = {0, 1, 2, 2, 0, 2, 1, 0};
            for (int v : rows) {
                due("7: set(" + what + ", " + v + ") tells what it was", x.set(what, v), was);
                was = v;
            }
            x.set(what, 2);
            due("7: refused", x.set(what, 3), BAD);
            due("7: the other one stays", x.set(1 - what, 0), 0);
            due("7: refused, it stays", x.set(what, 0), 2);
        }
    }

    // ---- promises 8 to 13: rows

    private static void sick() {
        EDGES.takes("8: king", 0, 1, (x, v) -> x.sick(v, 0));
        EDGES.takes("8: day", 0, 39, (x, v) -> x.sick(0, v));
        EDGES.fills("8: sick", 8, x -> x.sick(1, 39));
        EDGES.fillsAgain("8: sick", 8, 0, x -> x.sick(0, 0));
        TwinKings x = new TwinKings();
        x.sick(0, 0);
        due("8: on the first day", x.rules(0), 1);
        x.sick(1, 39);
        due("8: on the last day", x.rules(39), 0);
        due("8: not on the next ones", x.rules(1) + x.rules(37), 2);
    }

    private static void leap() {
        EDGES.takes("9: day", 0, 39, TwinKings::leap);
        EDGES.fills("9: leap", 4, x -> x.leap(39));
        EDGES.fillsAgain("9: leap", 4, 1, x -> x.leap(0));
        TwinKings x = new TwinKings();
        x.leap(0);
        x.leap(39);
        due("9: the first day", x.rules(0), 2);
        due("9: the last day", x.rules(39), 2);
        due("9: the next ones", x.rules(1) + x.rules(38), 1);
    }

    private static void edict() {
        EDGES.takes("10: day", 0, 39, (x, v) -> x.edict(v, 0));
        EDGES.takes("10: deed", 0, 7, (x, v) -> x.edict(0, v));
        EDGES.fills("10: edict", 10, x -> x.edict(39, 7));
        EDGES.fillsAgain("10: edict", 10, 2, x -> x.edict(0, 0));
    }

    /** Of the last deed that there is an edict is heard, of the next one it is not, until that one comes. */
    private static void edictsOfDeeds() {
        TwinKings x = Check.kings("1a;1a");
        x.edict(0, 1);
        due("10: of the last deed", x.allows(1, 0), 1);
        x.edict(0, 2);
        x.edict(0, 7);
        due("10: of deeds that there are not", x.allows(1, 0), 1);
        due("10: they count", x.count(4), 3);
        x.type(';');
        x.type('1');
        x.type('a');
        due("10: the third has come", x.allows(1, 0), 1);
        due("10: on its own day not yet", x.allows(0, 0), 7);
        TwinKings eight = Check.kings(Realm.EIGHT);
        eight.edict(0, 7);
        due("10: of deed 7", eight.allows(1, 0) ^ eight.allows(0, 0), 1 << 7);
    }

    private static void does() {
        EDGES.takes("11: day", 0, 39, (x, v) -> x.does(v, 0, 1));
        EDGES.takes("11: deed", 0, 7, (x, v) -> x.does(0, v, 1));
        EDGES.takes("11: days", 1, 5, (x, v) -> x.does(0, 0, v));
        for (int n = 1; n <= 5; n++) {
            int days = n;
            EDGES.takes("11: " + n + " days up to day 39", 0, 40 - n, (x, v) -> x.does(v, 0, days));
        }
        EDGES.takes("11: days from day 38 on", 1, 2, (x, v) -> x.does(38, 7, v));
        EDGES.fills("11: does", 12, x -> x.does(35, 7, 5));
        EDGES.fillsAgain("11: does", 12, 3, x -> x.does(0, 0, 1));
        EDGES.keeps("11: beyond day 39 ahead of FULL", Realm::full, x -> x.does(36, 0, 5), BAD);
    }

    private static void task() {
        EDGES.takes("12: deed", 0, 7, (x, v) -> x.task(v, 1));
        EDGES.takes("12: days", 1, 5, (x, v) -> x.task(0, v));
        EDGES.fills("12: task", 6, x -> x.task(7, 5));
        EDGES.fillsAgain("12: task", 6, 4, x -> x.task(0, 1));
    }

    private static void back() {
        int[] most = {8, 4, 10, 12, 6};
        EDGES.bad("13: what", Realm::empty, 0, 4, TwinKings::back);
        EDGES.bad("13: what", Realm::full, 0, 4, TwinKings::back);
        for (int k = 0; k <= 4; k++) {
            int what = k;
            EDGES.keeps("13: none of " + what, Realm::empty, x -> x.back(what), NOT);
            TwinKings x = Realm.full();
            for (int left = most[what] - 1; left >= 0; left--) {
                due("13: left of " + what, x.back(what), left);
                due("13: count of " + what, x.count(what + 2), left);
            }
            due("13: none is left of " + what, x.back(what), NOT);
            for (int other = 0; other <= 4; other++) {
                due("13: the others stay", x.count(other + 2), other == what ? 0 : most[other]);
            }
        }
    }

    /** Each change is heard by the next call, though the same was asked for just ahead of it. */
    private static void heardAtOnce() {
        TwinKings x = Check.kings("1a");
        due("2: ahead of it", x.allowed(6), 1);
        x.type(';');
        due("2: type is heard", x.allowed(6), 0);
        x.undo();
        due("4: undo is heard", x.allowed(6), 1);
        due("7: by rule 0", x.allowed(1), 0);
        x.set(0, 2);
        due("7: rule 2 is heard", x.allowed(1), 1);
        x.set(0, 0);
        x.sick(1, 1);
        due("8: sick is heard", x.allowed(1), 1);
        x.leap(1);
        due("9: leap is heard", x.allowed(1), 0);
        x.back(1);
        due("13: back of a leap is heard", x.allowed(1), 1);
        x.back(0);
        due("13: back of a sick one is heard", x.allowed(1), 0);
        x.edict(0, 0);
        due("10: edict is heard", x.allowed(2), 0);
        x.edict(0, 0);
        due("10: a second one undoes it", x.allowed(2), 1);
        x.back(2);
        due("13: back of an edict is heard", x.allowed(2), 0);
        x.sheet(0, 0, 2);
        x.read(0);
        due("14: read is heard", x.allowed(2), 1);
        x.wipe();
        due("3: wipe is heard", x.allowed(2), 0);
    }

    // ---- promise 14

    private static TwinKings withItems(int form, int... items) {
        TwinKings x = Check.kings("1a;1f");
        x.sheet(3, form, items.length);
        for (int i = 0; i < items.length; i++) {
            x.put(3, form, i, items[i]);
        }
        return x;
    }

    private static void reads(String what, int want, int form, int... items) {
        TwinKings x = withItems(form, items);
        due("14: " + what, x.read(3), want);
        due("14: " + what + ", edicts", x.count(4), want);
        due("14: " + what + ", it is no finding", x.count(8), 0);
        for (int i = 0; i < items.length; i++) {
            due("14: " + what + ", item " + i + " stays", x.get(3, form, i), withItems(form, items).get(3, form, i));
        }
        due("14: " + what + ", the items stay", x.lose(3), items.length);
    }

    private static void readRefused() {
        EDGES.takes("14: sheet", 0, 3, TwinKings::read);
        EDGES.finds("14: a lost sheet", Realm::few, x -> x.read(3), Edges.NULL);
        EDGES.finds("14: a lost sheet, the edicts are full", Realm::full, x -> x.read(3), Edges.NULL);
    }

    private static void readWholePairs() {
        for (int form = 0; form <= 2; form++) {
            reads("no items", 0, form);
            reads("one item is not whole", 0, form, 0);
            reads("two items", 1, form, 0, 0);
            reads("three items", 1, form, 0, 0, 1);
            reads("four items", 2, form, 0, 0, 39, 7);
            reads("five items, the fifth being wrong", 2, form, 0, 0, 39, 7, 99);
        }
        TwinKings x = withItems(2, 0, 0, 1, 1);
        x.read(3);
        due("14: by the elder, of deed 0", x.allows(1, 0), 0);
        due("14: by the younger, of deed 1", x.allows(2, 1), 0);
    }

    private static void readAsLongAsEachMayBe() {
        reads("the last day and deed", 1, 2, 39, 7);
        reads("a day below", 0, 2, -1, 0);
        reads("a day above", 0, 2, 40, 0);
        reads("a deed below", 0, 2, 0, -1);
        reads("a deed above", 0, 2, 0, 8);
        reads("the least int", 0, 2, Integer.MIN_VALUE, 0);
        reads("the greatest int", 0, 2, 0, Integer.MAX_VALUE);
        reads("none behind the first that may not be", 1, 2, 0, 0, 40, 0, 1, 1);
        reads("none at all, if it is the first", 0, 2, 0, 8, 1, 1, 2, 1);
        reads("a byte's lowest bits", 1, 0, 256 + 39, 512 + 7);
        reads("a byte that is below 0", 0, 0, 255, 0);
        reads("a short's lowest bits", 1, 1, 65536 + 39, 65536 + 7);
        reads("a short that is below 0", 0, 1, 65535, 0);
        reads("an int has all its bits", 0, 2, 256 + 39, 0);
    }

    private static void readAsLongAsThereIsRoom() {
        reads("a full sheet: ten of thirty", 10, 2, new int[60]);
        reads("just ten", 10, 1, new int[20]);
        reads("ten and one", 10, 1, new int[22]);
        TwinKings x = withItems(0, 0, 0, 2, 1);
        for (int k = 0; k < 9; k++) {
            x.edict(6, 0);
        }
        due("14: room for one of two", x.read(3), 1);
        due("14: ten", x.count(4), 10);
        due("14: it was the first of them", x.allows(39, 0), 0);
        due("14: no room: none comes", x.read(3), 0);
        EDGES.keeps("14: none comes to a full row", Realm::full, y -> y.read(0), 0);
    }
}
