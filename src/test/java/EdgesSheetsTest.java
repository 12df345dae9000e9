/** Promises 36 to 42 at their edges: sheets, findings, counts. */
public final class EdgesSheetsTest {
    private static final int BAD = -2, NOT = -3, FULL = -4;
    private static final int NULL = Edges.NULL, INDEX = Edges.INDEX, CAST = Edges.CAST, STORE = Edges.STORE;
    private static final int LEAST = Edges.LEAST, LEAST_INT = Integer.MIN_VALUE, MOST_INT = Integer.MAX_VALUE;
    private static final Edges EDGES = new Edges();

    public static void main(String[] args) {
        sheet();
        sheetOfEachSize();
        sheetIsNew();
        lose();
        put();
        putItems();
        putLowestBits();
        get();
        getOrder();
        copyRefused();
        copyOrder();
        copyRanges();
        copyOfAll();
        copyOnItself();
        write();
        writeLowestBits();
        count();
        countsAtMost();
        latestFinding();
        findingStays();
        EDGES.end("EdgesSheetsTest");
    }

    private static void due(String call, long got, long want) {
        EDGES.due(call, got, want);
    }

    // ---- promises 36 and 37

    private static void sheet() {
        EDGES.takes("36: sheet", 0, 3, (x, v) -> x.sheet(v, 0, 1));
        EDGES.takes("36: form", 0, 2, (x, v) -> x.sheet(3, v, 1));
        int[] above = {61, 62, MOST_INT};
        for (int n : above) {
            EDGES.keeps("36: " + n + " items", Realm::few, x -> x.sheet(0, 0, n), BAD);
            EDGES.keeps("36: " + n + " items on a lost sheet", Realm::full, x -> x.sheet(3, 0, n), BAD);
        }
        int[] below = {-1, -2, LEAST_INT};
        for (int n : below) {
            EDGES.finds("36: " + n + " items", Realm::few, x -> x.sheet(0, 0, n), Edges.SIZE);
            EDGES.finds("36: " + n + " items on a lost sheet", Realm::full, x -> x.sheet(3, 0, n), Edges.SIZE);
            EDGES.keeps("36: BAD by the sheet ahead of SIZE", Realm::few, x -> x.sheet(4, 0, n), BAD);
            EDGES.keeps("36: BAD by the form ahead of SIZE", Realm::few, x -> x.sheet(0, 3, n), BAD);
        }
    }

    private static void sheetOfEachSize() {
        int[] sizes = {0, 1, 59, 60};
        for (int form = 0; form <= 2; form++) {
            for (int n : sizes) {
                TwinKings x = new TwinKings();
                due("36: form " + form + ", " + n + " items", x.sheet(3, form, n), n);
                for (int i = 0; i < n; i++) {
                    due("36: 0 at first", x.get(3, form, i), 0);
                }
                due("36: none at " + n, x.put(3, form, n, 1), INDEX);
                due("37: how many items it had", x.lose(3), n);
            }
        }
    }

    private static void sheetIsNew() {
        TwinKings x = new TwinKings();
        x.sheet(0, 2, 60);
        x.put(0, 2, 0, 5);
        x.put(0, 2, 59, 6);
        x.sheet(0, 2, 1);
        due("36: a new row from the first item on", x.get(0, 2, 0), 0);
        x.sheet(0, 2, 60);
        due("36: and up to the last", x.get(0, 2, 59), 0);
        x.put(0, 2, 59, 6);
        x.lose(0);
        x.sheet(0, 2, 60);
        due("36: also of one that was lost", x.get(0, 2, 59), 0);
        x.sheet(0, 0, 60);
        due("36: it may get another form", x.put(0, 0, 0, 1), 1);
        due("36: and has that one alone", x.put(0, 2, 0, 1), CAST);
        due("36: the others stay lost", x.lose(1), NULL);
    }

    private static void lose() {
        EDGES.takes("37: sheet", 0, 3, TwinKings::lose);
        EDGES.finds("37: a lost one", Realm::few, x -> x.lose(3), NULL);
        EDGES.finds("37: a lost one, all else being full", Realm::full, x -> x.lose(3), NULL);
        TwinKings x = Realm.full();
        int[] had = {3, 60, 0};
        for (int s = 0; s < 3; s++) {
            due("37: sheet " + s, x.lose(s), had[s]);
            due("37: sheet " + s + " is lost", x.lose(s), NULL);
        }
    }

    // ---- promises 38 and 39

    private static void put() {
        EDGES.takes("38: sheet", 0, 3, (x, v) -> x.put(v, 0, 0, 1));
        EDGES.takes("38: form", 0, 2, (x, v) -> x.put(0, v, 0, 1));
        EDGES.keeps("38: BAD by the form ahead of NULL", Realm::few, x -> x.put(3, 3, 0, 1), BAD);
        EDGES.keeps("38: BAD by the form ahead of INDEX", Realm::few, x -> x.put(0, -1, 9, 1), BAD);
        EDGES.finds("38: NULL ahead of INDEX", Realm::few, x -> x.put(3, 0, -1, 1), NULL);
        for (int form = 0; form <= 2; form++) {
            int as = form;
            EDGES.finds("38: NULL, form " + form, Realm::few, x -> x.put(3, as, 0, 1), NULL);
            int other = (form + 1) % 3;
            EDGES.finds("38: CAST of form " + form, Realm::few, x -> x.put(as, other, 0, 1), CAST);
            int third = (form + 2) % 3;
            EDGES.finds("38: CAST ahead of INDEX", Realm::few, x -> x.put(as, third, 2, 1), CAST);
        }
        EDGES.finds("38: CAST of a sheet without items", Realm::full, x -> x.put(2, 0, 0, 1), CAST);
    }

    private static void putItems() {
        int[] wrong = {LEAST_INT, -1, 2, 3, MOST_INT};
        for (int form = 0; form <= 2; form++) {
            int as = form;
            for (int i : wrong) {
                EDGES.finds("38: item " + i, Realm::few, x -> x.put(as, as, i, 1), INDEX);
                EDGES.finds("39: item " + i, Realm::few, x -> x.get(as, as, i), LEAST, 2);
            }
            TwinKings x = Realm.few();
            due("38: the first item", x.put(form, form, 0, 3), 1);
            due("38: the last item", x.put(form, form, 1, 4), 1);
            due("39: the first item", x.get(form, form, 0), 3);
            due("39: the last item", x.get(form, form, 1), 4);
            due("38: no finding of these", x.count(8), 5);
        }
        EDGES.finds("38: no items", Realm::full, x -> x.put(2, 2, 0, 1), INDEX);
        EDGES.finds("38: item 60 of 60", Realm::full, x -> x.put(1, 1, 60, 1), INDEX);
        due("38: item 59 of 60", Realm.full().put(1, 1, 59, 1), 1);
    }

    private static void keptAs(int form, int v, int want) {
        TwinKings x = new TwinKings();
        x.sheet(0, form, 1);
        due("38: put of " + v + ", form " + form, x.put(0, form, 0, v), 1);
        due("39: get of " + v + ", form " + form, x.get(0, form, 0), want);
        due("39: it is no finding", x.count(8), 0);
    }

    private static void putLowestBits() {
        int[] v = {0, 127, 128, 129, 255, 256, -1, -128, -129, -256, 32767, 32768, LEAST_INT, MOST_INT};
        int[] asByte = {0, 127, -128, -127, -1, 0, -1, -128, 127, 0, -1, 0, 0, -1};
        int[] asShort = {0, 127, 128, 129, 255, 256, -1, -128, -129, -256, 32767, -32768, 0, -1};
        for (int k = 0; k < v.length; k++) {
            keptAs(0, v[k], asByte[k]);
            keptAs(1, v[k], asShort[k]);
            keptAs(2, v[k], v[k]);
        }
        keptAs(1, 65535, -1);
        keptAs(1, 65536, 0);
        keptAs(1, -32768, -32768);
        keptAs(1, -32769, 32767);
    }

    /** Of get the least int is told for BAD as for a finding; count(8) alone tells them apart. */
    private static void get() {
        int[] wrongSheets = {LEAST_INT, -1, 4, MOST_INT};
        int[] wrongForms = {LEAST_INT, -1, 3, MOST_INT};
        for (int s : wrongSheets) {
            EDGES.keeps("39: sheet " + s, Realm::few, x -> x.get(s, 0, 0), LEAST);
            EDGES.keeps("39: sheet " + s + ", new", Realm::empty, x -> x.get(s, 0, 0), LEAST);
        }
        for (int form : wrongForms) {
            EDGES.keeps("39: form " + form, Realm::full, x -> x.get(0, form, 0), LEAST);
            EDGES.keeps("39: form " + form + ", ahead of NULL", Realm::full, x -> x.get(3, form, 0), LEAST);
        }
        due("39: the least int is the least", LEAST, -2147483648);
    }

    private static void getOrder() {
        EDGES.keeps("39: BAD by the form ahead of INDEX", Realm::few, x -> x.get(0, 3, 9), LEAST);
        EDGES.finds("39: NULL ahead of INDEX", Realm::few, x -> x.get(3, 0, -1), LEAST, 1);
        for (int form = 0; form <= 2; form++) {
            int as = form;
            int other = (form + 1) % 3;
            int third = (form + 2) % 3;
            EDGES.finds("39: NULL, form " + form, Realm::few, x -> x.get(3, as, 0), LEAST, 1);
            EDGES.finds("39: CAST of form " + form, Realm::few, x -> x.get(as, other, 1), LEAST, 3);
            EDGES.finds("39: CAST ahead of INDEX", Realm::few, x -> x.get(as, third, 2), LEAST, 3);
        }
        EDGES.finds("39: no items", Realm::full, x -> x.get(2, 2, 0), LEAST, 2);
        EDGES.finds("39: item 60 of 60", Realm::full, x -> x.get(1, 1, 60), LEAST, 2);
        EDGES.keeps("39: item 59 of 60", Realm::full, x -> x.get(1, 1, 59), 300);
        EDGES.keeps("39: item 2 of 3, below 0", Realm::full, x -> x.get(0, 0, 2), -5);
    }

    // ---- promise 40

    private static void copyRefused() {
        EDGES.takes("40: s", 0, 3, (x, v) -> x.copy(v, 0, 0, 0, 0));
        EDGES.takes("40: t", 0, 3, (x, v) -> x.copy(0, 0, v, 0, 0));
        EDGES.finds("40: s is lost", Realm::few, x -> x.copy(3, 0, 0, 0, 0), NULL);
        EDGES.finds("40: t is lost", Realm::few, x -> x.copy(0, 0, 3, 0, 0), NULL);
        EDGES.finds("40: both are lost", Realm::few, x -> x.copy(3, 0, 3, 0, 0), NULL);
        for (int s = 0; s <= 2; s++) {
            int from = s;
            int to = (s + 1) % 3;
            EDGES.finds("40: STORE of " + s + " on " + to, Realm::few, x -> x.copy(from, 0, to, 0, 1), STORE);
            EDGES.finds("40: STORE of none", Realm::few, x -> x.copy(to, 0, from, 0, 0), STORE);
        }
    }

    private static void copyOrder() {
        EDGES.keeps("40: BAD by t ahead of NULL by s", Realm::few, x -> x.copy(3, 0, 4, 0, 1), BAD);
        EDGES.keeps("40: BAD by s ahead of NULL by t", Realm::few, x -> x.copy(-1, 0, 3, 0, 1), BAD);
        EDGES.keeps("40: BAD ahead of INDEX", Realm::few, x -> x.copy(0, -1, 4, 0, 1), BAD);
        EDGES.finds("40: NULL ahead of INDEX", Realm::few, x -> x.copy(0, -1, 3, 0, 1), NULL);
        EDGES.finds("40: NULL ahead of INDEX, s", Realm::few, x -> x.copy(3, 0, 0, 0, -1), NULL);
        EDGES.finds("40: STORE ahead of INDEX, i", Realm::few, x -> x.copy(0, -1, 1, 0, 1), STORE);
        EDGES.finds("40: STORE ahead of INDEX, j", Realm::few, x -> x.copy(0, 0, 1, 3, 1), STORE);
        EDGES.finds("40: STORE ahead of INDEX, n", Realm::few, x -> x.copy(0, 0, 1, 0, -1), STORE);
    }

    /** Sheet 0 has the items 1 to 4, sheet 1 the items 5 to 7, all ints; sheet 2 has none. */
    private static TwinKings rows() {
        TwinKings x = new TwinKings();
        x.sheet(0, 2, 4);
        x.sheet(1, 2, 3);
        x.sheet(2, 2, 0);
        for (int k = 0; k < 7; k++) {
            x.put(k / 4, 2, k % 4, k + 1);
        }
        return x;
    }

    /** Every i, j and n near the edges, held against the sizes 4 and 3 by sums of longs. */
    private static void copyRanges() {
        int[] places = {LEAST_INT, -1, 0, 1, 2, 3, 4, 5, MOST_INT};
        for (int i : places) {
            for (int j : places) {
                for (int n : places) {
                    boolean isWell = i >= 0 && j >= 0 && n >= 0 && (long) i + n <= 4 && (long) j + n <= 3;
                    String call = "40: copy(0, " + i + ", 1, " + j + ", " + n + ")";
                    if (isWell) {
                        copiesJust(call, i, j, n);
                    } else {
                        EDGES.finds(call, EdgesSheetsTest::rows, x -> x.copy(0, i, 1, j, n), INDEX);
                    }
                }
            }
        }
    }

    private static void copiesJust(String call, int i, int j, int n) {
        TwinKings x = rows();
        due(call, x.copy(0, i, 1, j, n), 1);
        for (int k = 0; k < 4; k++) {
            due(call + ", sheet 0 stays, item " + k, x.get(0, 2, k), k + 1);
        }
        for (int k = 0; k < 3; k++) {
            boolean came = k >= j && k < j + n;
            due(call + ", sheet 1, item " + k, x.get(1, 2, k), came ? i + k - j + 1 : k + 5);
        }
        due(call + " is no finding", x.count(8), 0);
    }

    private static void copyOfAll() {
        EDGES.keeps("40: none of none", EdgesSheetsTest::rows, x -> x.copy(2, 0, 2, 0, 0), 1);
        EDGES.keeps("40: none of some", EdgesSheetsTest::rows, x -> x.copy(0, 4, 2, 0, 0), 1);
        EDGES.finds("40: one of none", EdgesSheetsTest::rows, x -> x.copy(2, 0, 0, 0, 1), INDEX);
        EDGES.finds("40: one on none", EdgesSheetsTest::rows, x -> x.copy(0, 0, 2, 0, 1), INDEX);
        TwinKings x = new TwinKings();
        x.sheet(0, 0, 60);
        x.sheet(1, 0, 60);
        x.put(0, 0, 0, 8);
        x.put(0, 0, 59, 9);
        due("40: sixty items and one", x.copy(0, 0, 1, 0, 61), INDEX);
        due("40: sixty items", x.copy(0, 0, 1, 0, 60), 1);
        due("40: the first of them", x.get(1, 0, 0), 8);
        due("40: the last of them", x.get(1, 0, 59), 9);
    }

    private static void copyOnItself() {
        int[][] calls = {{0, 1, 3}, {1, 0, 3}, {0, 0, 4}, {0, 3, 1}, {3, 0, 1}, {2, 1, 2}};
        int[][] due = {{1, 1, 2, 3}, {2, 3, 4, 4}, {1, 2, 3, 4}, {1, 2, 3, 1}, {4, 2, 3, 4}, {1, 3, 4, 4}};
        for (int k = 0; k < calls.length; k++) {
            TwinKings x = rows();
            due("40: as they were", x.copy(0, calls[k][0], 0, calls[k][1], calls[k][2]), 1);
            for (int i = 0; i < 4; i++) {
                due("40: as they were, row " + k + ", item " + i, x.get(0, 2, i), due[k][i]);
            }
        }
        EDGES.finds("40: one too many on itself", EdgesSheetsTest::rows, x -> x.copy(0, 0, 0, 1, 4), INDEX);
    }

    // ---- promise 41

    private static void write() {
        EDGES.takes("41: sheet", 0, 3, TwinKings::write);
        EDGES.finds("41: a lost sheet", Realm::few, x -> x.write(3), NULL);
        EDGES.keeps("41: no items", Realm::full, x -> x.write(2), 0);
        int[] sizes = {0, 1, 39, 40, 41, 60};
        for (int n : sizes) {
            TwinKings x = Check.kings(Realm.EIGHT);
            x.sheet(0, 2, n);
            for (int i = 0; i < n; i++) {
                x.put(0, 2, i, -7);
            }
            due("41: on " + n + " items", x.write(0), Math.min(n, 40));
            for (int i = 0; i < n; i++) {
                due("41: on " + n + " items, item " + i, x.get(0, 2, i), i < 40 ? x.allowed(i) : -7);
            }
        }
    }

    private static void writeLowestBits() {
        int[] sunday = {-1, 255, 255};
        for (int form = 0; form <= 2; form++) {
            TwinKings x = Check.kings(Realm.EIGHT);
            x.sheet(0, form, 40);
            due("41: form " + form, x.write(0), 40);
            due("41: form " + form + ", day 0", x.get(0, form, 0), 0x55);
            due("41: form " + form + ", a Sunday", x.get(0, form, 34), sunday[form]);
            due("41: form " + form + ", day 39", x.get(0, form, 39), form == 0 ? 0xaa - 256 : 0xaa);
        }
        TwinKings none = new TwinKings();
        none.sheet(0, 1, 60);
        none.put(0, 1, 39, 5);
        due("41: no deeds", none.write(0), 40);
        due("41: none is allowed", none.get(0, 1, 39), 0);
    }

    // ---- promise 42

    private static void count() {
        EDGES.takes("42: what", 0, 8, TwinKings::count);
        int[] few = {3, 8, 1, 1, 1, 1, 1, 2, 5};
        for (int k = 0; k <= 8; k++) {
            int what = k;
            EDGES.keeps("42: new, count(" + what + ")", Realm::empty, x -> x.count(what), 0);
            EDGES.keeps("42: few, count(" + what + ")", Realm::few, x -> x.count(what), few[what]);
        }
    }

    private static void countsAtMost() {
        int[] most = {8, 23, 8, 4, 10, 12, 6, 16, 4};
        for (int k = 0; k <= 8; k++) {
            int what = k;
            EDGES.keeps("42: full, count(" + what + ")", Realm::full, x -> x.count(what), most[what]);
            int withFault = what == 0 ? 0 : most[what];
            EDGES.keeps("42: with a fault, count(" + what + ")", Realm::faulty, x -> x.count(what), withFault);
        }
    }

    private static void latestFinding() {
        TwinKings x = new TwinKings();
        due("42: none yet", x.count(8), 0);
        due("42: SIZE", x.sheet(0, 0, -1), -15);
        due("42: SIZE", x.count(8), 5);
        due("42: NULL", x.lose(0), -11);
        due("42: NULL", x.count(8), 1);
        x.sheet(0, 0, 1);
        x.sheet(1, 1, 1);
        due("42: a sheet is no finding", x.count(8), 1);
        due("42: STORE", x.copy(0, 0, 1, 0, 1), -14);
        due("42: STORE", x.count(8), 4);
        due("42: CAST", x.put(0, 1, 0, 0), -13);
        due("42: CAST", x.count(8), 3);
        due("42: INDEX", x.put(0, 0, 1, 0), -12);
        due("42: INDEX", x.count(8), 2);
        due("42: get finds as well", x.get(2, 0, 0), LEAST);
        due("42: NULL again", x.count(8), 1);
    }

    /** Neither what is well nor another refusal touches the number of the latest finding. */
    private static void findingStays() {
        TwinKings x = new TwinKings();
        x.sheet(0, 0, -1);
        due("42: BAD", x.lose(4), BAD);
        due("42: NOT", x.undo(), NOT);
        for (int k = 0; k < 4; k++) {
            x.leap(0);
        }
        due("42: FULL", x.leap(0), FULL);
        due("42: NONE", x.ask(), -1);
        x.sheet(0, 0, 1);
        x.put(0, 0, 0, 1);
        x.get(0, 0, 0);
        x.copy(0, 0, 0, 0, 1);
        x.write(0);
        x.read(0);
        x.lose(0);
        x.wipe();
        x.digest();
        due("42: it stays", x.count(8), 5);
    }
}
