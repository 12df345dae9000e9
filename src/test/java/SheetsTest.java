/** Promises 36 to 42: sheets, findings, counts. */
public final class SheetsTest {
    private static final int BAD = -2;
    private static final int NULL = -11, INDEX = -12, CAST = -13, STORE = -14, SIZE = -15;
    private static final int LEAST = Integer.MIN_VALUE;
    private static final Check CHECK = new Check();

    public static void main(String[] args) {
        sheet();
        lose();
        put();
        get();
        copy();
        copyRefused();
        write();
        count();
        CHECK.end("SheetsTest");
    }

    private static void due(String call, long got, long want) {
        CHECK.due(call, got, want);
    }

    private static void sheet() {
        TwinKings x = new TwinKings();
        due("36: sheet below", x.sheet(-1, 0, 1), BAD);
        due("36: sheet above", x.sheet(4, 0, 1), BAD);
        due("36: form below", x.sheet(0, -1, 1), BAD);
        due("36: form above", x.sheet(0, 3, 1), BAD);
        due("36: above 60", x.sheet(0, 0, 61), BAD);
        due("36: bad ahead of size", x.sheet(0, 3, -1), BAD);
        due("36: no finding yet", x.count(8), 0);
        due("36: size", x.sheet(0, 0, -1), SIZE);
        due("36: the finding", x.count(8), 5);
        due("36: the least size", x.sheet(0, 0, Integer.MIN_VALUE), SIZE);
        due("36: still lost", x.lose(0), NULL);
        due("36: none", x.sheet(0, 0, 0), 0);
        due("36: most", x.sheet(3, 2, 60), 60);
        x.put(3, 2, 59, 7);
        due("36: refused, it stays", x.sheet(3, 2, -1), SIZE);
        due("36: refused, it stays", x.get(3, 2, 59), 7);
        due("36: a new row", x.sheet(3, 2, 60), 60);
        due("36: of zeros", x.get(3, 2, 59), 0);
        x.put(3, 2, 0, 7);
        x.sheet(3, 2, 1);
        due("36: of zeros from the first on", x.get(3, 2, 0), 0);
        due("36: of another form", x.sheet(3, 1, 2), 2);
        due("36: of another form", x.put(3, 1, 1, 1), 1);
        due("36: shorter", x.put(3, 1, 2, 1), INDEX);
    }

    private static void lose() {
        TwinKings x = new TwinKings();
        due("37: below", x.lose(-1), BAD);
        due("37: above", x.lose(4), BAD);
        due("37: lost", x.lose(2), NULL);
        due("37: the finding", x.count(8), 1);
        x.sheet(2, 1, 17);
        x.sheet(1, 1, 0);
        due("37: how many", x.lose(2), 17);
        due("37: none", x.lose(1), 0);
        due("37: lost again", x.lose(2), NULL);
        due("37: lost for put", x.put(2, 1, 0, 0), NULL);
    }

    private static void put() {
        TwinKings x = new TwinKings();
        x.sheet(0, 0, 2);
        x.sheet(1, 1, 2);
        x.sheet(2, 2, 2);
        due("38: sheet below", x.put(-1, 0, 0, 0), BAD);
        due("38: sheet above", x.put(4, 0, 0, 0), BAD);
        due("38: form below", x.put(0, -1, 0, 0), BAD);
        due("38: form above", x.put(0, 3, 0, 0), BAD);
        due("38: bad ahead of null", x.put(3, 3, 0, 0), BAD);
        due("38: null", x.put(3, 0, 0, 0), NULL);
        due("38: cast", x.put(0, 1, 0, 0), CAST);
        due("38: the finding", x.count(8), 3);
        due("38: cast ahead of index", x.put(0, 2, 9, 0), CAST);
        due("38: index", x.put(0, 0, 2, 0), INDEX);
        due("38: the finding", x.count(8), 2);
        due("38: index below", x.put(0, 0, -1, 0), INDEX);
        due("38: a byte", x.put(0, 0, 0, 0x12345680), 1);
        due("38: its lowest bits", x.get(0, 0, 0), -128);
        due("38: a short", x.put(1, 1, 1, 0x12348001), 1);
        due("38: its lowest bits", x.get(1, 1, 1), -32767);
        due("38: an int", x.put(2, 2, 1, Integer.MIN_VALUE + 1), 1);
        due("38: all its bits", x.get(2, 2, 1), Integer.MIN_VALUE + 1);
        due("38: the others stay", x.get(2, 2, 0), 0);
        due("38: latest finding stays", x.count(8), 2);
    }

    private static void get() {
        TwinKings x = new TwinKings();
        x.sheet(0, 0, 2);
        x.put(0, 0, 1, 5);
        due("39: item", x.get(0, 0, 1), 5);
        due("39: sheet below", x.get(-1, 0, 0), LEAST);
        due("39: sheet above", x.get(4, 0, 0), LEAST);
        due("39: form below", x.get(0, -1, 0), LEAST);
        due("39: form above", x.get(0, 3, 0), LEAST);
        due("39: bad is no finding", x.count(8), 0);
        due("39: null", x.get(1, 0, 0), LEAST);
        due("39: count tells", x.count(8), 1);
        due("39: cast", x.get(0, 1, 7), LEAST);
        due("39: count tells", x.count(8), 3);
        due("39: index", x.get(0, 0, 2), LEAST);
        due("39: count tells", x.count(8), 2);
        x.lose(1);
        due("39: index below", x.get(0, 0, -1), LEAST);
        due("39: count tells", x.count(8), 2);
    }

    private static void rowIs(String what, TwinKings x, int s, int... items) {
        for (int i = 0; i < items.length; i++) {
            due(what + ", item " + i, x.get(s, 2, i), items[i]);
        }
    }

    private static TwinKings withRow() {
        TwinKings x = new TwinKings();
        x.sheet(0, 2, 5);
        for (int i = 0; i < 5; i++) {
            x.put(0, 2, i, i + 1);
        }
        x.sheet(1, 2, 3);
        return x;
    }

    private static void copy() {
        TwinKings x = withRow();
        due("40: to another", x.copy(0, 2, 1, 1, 2), 1);
        rowIs("40: to another", x, 1, 0, 3, 4);
        rowIs("40: from it", x, 0, 1, 2, 3, 4, 5);
        due("40: all", x.copy(0, 0, 1, 0, 3), 1);
        rowIs("40: all", x, 1, 1, 2, 3);
        due("40: forth, as they were", x.copy(0, 0, 0, 1, 4), 1);
        rowIs("40: forth", x, 0, 1, 1, 2, 3, 4);
        due("40: back, as they were", x.copy(0, 1, 0, 0, 4), 1);
        rowIs("40: back", x, 0, 1, 2, 3, 4, 4);
        due("40: none, from the end", x.copy(0, 5, 1, 3, 0), 1);
        rowIs("40: none", x, 1, 1, 2, 3);
    }

    private static void copyRefused() {
        TwinKings x = withRow();
        x.sheet(2, 1, 3);
        due("40: s below", x.copy(-1, 0, 1, 0, 1), BAD);
        due("40: s above", x.copy(4, 0, 1, 0, 1), BAD);
        due("40: t below", x.copy(0, 0, -1, 0, 1), BAD);
        due("40: t above", x.copy(0, 0, 4, 0, 1), BAD);
        due("40: bad ahead of null", x.copy(3, 0, 4, 0, 1), BAD);
        due("40: s is lost", x.copy(3, 0, 1, 0, 1), NULL);
        due("40: t is lost", x.copy(0, 0, 3, 0, 1), NULL);
        due("40: store", x.copy(0, 0, 2, 0, 1), STORE);
        due("40: the finding", x.count(8), 4);
        due("40: store ahead of index", x.copy(0, -1, 2, 0, 1), STORE);
        due("40: store of none", x.copy(2, 0, 0, 0, 0), STORE);
        due("40: i below", x.copy(0, -1, 1, 0, 1), INDEX);
        due("40: the finding", x.count(8), 2);
        due("40: j below", x.copy(0, 0, 1, -1, 1), INDEX);
        due("40: n below", x.copy(0, 0, 1, 0, -1), INDEX);
        due("40: not so many in s", x.copy(0, 3, 1, 0, 3), INDEX);
        due("40: not so many in t", x.copy(0, 0, 1, 1, 3), INDEX);
        due("40: beyond the end", x.copy(0, 6, 1, 0, 0), INDEX);
        due("40: sums that would wrap", x.copy(0, 1, 1, 1, Integer.MAX_VALUE), INDEX);
        due("40: sums that would wrap", x.copy(0, Integer.MAX_VALUE, 1, 1, 1), INDEX);
        rowIs("40: refused, it stays", x, 1, 0, 0, 0);
    }

    private static void write() {
        TwinKings x = Check.kings("1a;1f;1a;1f;1a;1f;1a;1f");
        due("41: below", x.write(-1), BAD);
        due("41: above", x.write(4), BAD);
        due("41: lost", x.write(0), NULL);
        due("41: the finding", x.count(8), 1);
        x.sheet(0, 2, 60);
        x.put(0, 2, 40, 9);
        due("41: 40 at most", x.write(0), 40);
        due("41: day 0", x.get(0, 2, 0), 0x55);
        due("41: day 1", x.get(0, 2, 1), 0xaa);
        due("41: a Sunday", x.get(0, 2, 6), 0xff);
        due("41: day 39", x.get(0, 2, 39), 0xaa);
        due("41: the rest stays", x.get(0, 2, 40), 9);
        x.sheet(1, 0, 7);
        due("41: as many as there are", x.write(1), 7);
        due("41: a byte's lowest bits", x.get(1, 0, 1), -86);
        due("41: a byte's lowest bits", x.get(1, 0, 6), -1);
        x.sheet(2, 1, 0);
        due("41: none", x.write(2), 0);
    }

    private static void count() {
        TwinKings x = Check.kings("1a;1f;2a");
        x.sick(0, 0);
        x.leap(0);
        x.leap(1);
        x.edict(0, 0);
        x.edict(0, 0);
        x.edict(0, 0);
        for (int k = 0; k < 4; k++) {
            x.does(0, 0, 1);
        }
        for (int k = 0; k < 5; k++) {
            x.task(0, 1);
        }
        for (int k = 0; k < 3; k++) {
            x.seen(0, 1);
            x.book(0, 0, 1);
            x.book(0, 0, 1);
        }
        int[] many = {3, 8, 1, 2, 3, 4, 5, 9, 0};
        for (int what = 0; what <= 8; what++) {
            due("42: count(" + what + ")", x.count(what), many[what]);
        }
        due("42: below", x.count(-1), BAD);
        due("42: above", x.count(9), BAD);
        x.type(';');
        due("42: no deeds with a fault", x.count(0), 0);
        due("42: but bytes", x.count(1), 9);
        x.lose(0);
        x.sheet(0, 0, 1);
        due("42: the latest finding", x.count(8), 1);
        x.sheet(0, 0, -1);
        due("42: the latest finding", x.count(8), 5);
    }
}
