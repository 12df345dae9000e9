/** Promises 28 to 35: what was seen, the book, chance, years. */
public final class SeenTest {
    private static final int NONE = -1, BAD = -2, FULL = -4;
    private static final long LONG_BAD = Long.MIN_VALUE + 2;
    private static final Check CHECK = new Check();

    public static void main(String[] args) {
        seen();
        book();
        forget();
        when();
        ask();
        forged();
        forgedOfNoDeed();
        chance();
        chanceAndEdicts();
        year();
        CHECK.end("SeenTest");
    }

    private static void due(String call, long got, long want) {
        CHECK.due(call, got, want);
    }

    private static void seen() {
        TwinKings x = new TwinKings();
        due("28: deed below", x.seen(-1, 0), BAD);
        due("28: deed above", x.seen(8, 0), BAD);
        due("28: is below", x.seen(0, -1), BAD);
        due("28: is above", x.seen(0, 2), BAD);
        for (int k = 1; k <= 8; k++) {
            due("28: seen " + k, x.seen(k - 1, k % 2), k);
        }
        due("28: full", x.seen(0, 0), FULL);
        due("28: bad ahead of full", x.seen(8, 0), BAD);
        due("28: how many", x.count(7), 8);
    }

    private static void book() {
        TwinKings x = new TwinKings();
        due("29: day below", x.book(-1, 0, 0), BAD);
        due("29: day above", x.book(40, 0, 0), BAD);
        due("29: deed below", x.book(0, -1, 0), BAD);
        due("29: deed above", x.book(0, 8, 0), BAD);
        due("29: is below", x.book(0, 0, -1), BAD);
        due("29: is above", x.book(0, 0, 2), BAD);
        x.seen(0, 0);
        for (int k = 1; k <= 8; k++) {
            due("29: book " + k, x.book(39, 7, 1), k);
        }
        due("29: full", x.book(0, 0, 0), FULL);
        due("29: bad ahead of full", x.book(40, 0, 0), BAD);
        due("29: seen and book together", x.count(7), 9);
    }

    private static void forget() {
        TwinKings x = new TwinKings();
        x.seen(0, 0);
        x.seen(1, 0);
        x.book(0, 0, 0);
        due("30: below", x.forget(-1), BAD);
        due("30: above", x.forget(2), BAD);
        due("30: all seen", x.forget(0), 2);
        due("30: the book stays", x.count(7), 1);
        due("30: seen again", x.seen(0, 0), 1);
        due("30: the book", x.forget(1), 1);
        due("30: seen stays", x.count(7), 1);
        due("30: none", x.forget(1), 0);
    }

    private static void when() {
        // Deed 0: even days and Sundays (13 and 27 are odd): 22; deed 1: odd days and Sundays: 23.
        TwinKings x = Check.kings("1a;1f");
        due("31: all days", x.when(NONE), 40);
        due("31: the last one", x.when(39), 39);
        x.seen(0, 1);
        due("31: of the elder's", x.when(NONE), 22);
        due("31: the seventh", x.when(6), 12);
        due("31: the eighth", x.when(7), 13);
        due("31: the last one", x.when(21), 38);
        due("31: none behind it", x.when(22), NONE);
        x.seen(1, 1);
        due("31: Sundays", x.when(NONE), 5);
        due("31: the first Sunday", x.when(0), 6);
        due("31: the last Sunday", x.when(4), 34);
        x.forget(0);
        x.seen(1, 0);
        due("31: not the younger's", x.when(NONE), 17);
        x.seen(0, 0);
        due("31: none", x.when(NONE), 0);
        due("31: none, the first", x.when(0), NONE);
        x.forget(0);
        x.seen(2, 0);
        due("31: of a deed that there is not", x.when(NONE), 0);
        due("31: below", x.when(-2), BAD);
        due("31: above", x.when(40), BAD);
    }

    private static void ask() {
        TwinKings none = new TwinKings();
        due("32: no deeds", none.ask(), NONE);
        TwinKings x = Check.kings("1a;1f");
        due("32: 22 and 18 beat 23 and 17", x.ask(), 0);
        TwinKings y = Check.kings("1f;1a");
        due("32: the other way about", y.ask(), 1);
        TwinKings like = Check.kings("1a;1a");
        due("32: of like ones the least", like.ask(), 0);
        y.seen(0, 1);
        // Of 23 days deed 1 is allowed on 5; deed 0 on all.
        due("32: among those days", y.ask(), 1);
        y.seen(1, 0);
        due("32: nothing is told by either", y.ask(), 0);
        x.type(';');
        due("32: with a fault there are none", x.ask(), NONE);
    }

    private static void forged() {
        TwinKings x = Check.kings("1a");
        due("33: no edicts", x.forged(), 0);
        x.edict(0, 0);
        x.edict(2, 0);
        x.edict(1, 0);
        due("33: the book is empty", x.forged(), 7);
        x.book(4, 0, 1);
        // Day 4 is the elder's: without edict 0 or 1 it would be forbidden.
        due("33: the younger's edict changes nothing then", x.forged(), 4);
        x.forget(1);
        x.book(4, 0, 0);
        due("33: either of the elder's", x.forged(), 3);
        x.book(2, 0, 1);
        due("33: the first one alone", x.forged(), 1);
        x.book(3, 0, 0);
        due("33: no single one", x.forged(), 0);
        due("33: the edicts stay", x.count(4), 3);
        due("33: what is allowed stays", x.allowed(4), 1);
    }

    private static void forgedOfNoDeed() {
        TwinKings x = Check.kings("1a");
        for (int k = 0; k < 10; k++) {
            x.edict(6, 0);
        }
        x.book(0, 0, 1);
        due("33: ten", x.forged(), 1023);
        x.book(0, 1, 0);
        due("33: of a deed that there is not neither is so", x.forged(), 0);
        x.forget(1);
        x.book(0, 1, 1);
        due("33: of a deed that there is not neither is so", x.forged(), 0);
    }

    private static void chanceIs(TwinKings x, int c, int day, int days, long above, long below) {
        String call = "34: chance(" + c + ", " + day + ", 0, " + days + ")";
        due(call + " above", x.chance(c, day, 0, days, 0), above);
        due(call + " below", x.chance(c, day, 0, days, 1), below);
    }

    private static void chance() {
        TwinKings x = Check.kings("1a");
        chanceIs(x, 0, 0, 1, 1, 1);
        chanceIs(x, 0, 1, 1, 0, 1);
        chanceIs(x, 8, 0, 1, 3, 4);
        chanceIs(x, 8, 1, 1, 1, 2);
        chanceIs(x, 8, 5, 3, 1, 4);
        chanceIs(x, 16, 0, 6, 1, 1);
        chanceIs(x, 1, 0, 1, 241, 256);
        chanceIs(x, 1, 1, 1, 1, 16);
        chanceIs(x, 1, 0, 6, 241L * 241 * 241, 256L * 256 * 256 * 16 * 16 * 16);
        // A Sunday, then thrice 240 and twice 241 of 256.
        chanceIs(x, 15, 34, 6, 15L * 15 * 15 * 241 * 241, 16L * 16 * 16 * 256 * 256);
        x.leap(6);
        chanceIs(x, 8, 6, 1, 0, 1);
        x.sick(0, 0);
        chanceIs(x, 0, 0, 1, 1, 1);
        due("34: c below", x.chance(-1, 0, 0, 1, 0), LONG_BAD);
        due("34: c above", x.chance(17, 0, 0, 1, 0), LONG_BAD);
        due("34: day below", x.chance(0, -1, 0, 1, 0), LONG_BAD);
        due("34: day above", x.chance(0, 40, 0, 1, 0), LONG_BAD);
        due("34: deed below", x.chance(0, 0, -1, 1, 0), LONG_BAD);
        due("34: no such deed", x.chance(0, 0, 1, 1, 0), LONG_BAD);
        due("34: no days", x.chance(0, 0, 0, 0, 0), LONG_BAD);
        due("34: no days, later", x.chance(0, 5, 0, 0, 0), LONG_BAD);
        due("34: too many days", x.chance(0, 0, 0, 7, 0), LONG_BAD);
        due("34: beyond day 39", x.chance(0, 35, 0, 6, 0), LONG_BAD);
        due("34: what below", x.chance(0, 0, 0, 1, -1), LONG_BAD);
        due("34: what above", x.chance(0, 0, 0, 1, 2), LONG_BAD);
    }

    private static void chanceAndEdicts() {
        TwinKings x = Check.kings("1a");
        x.sick(0, 0);
        x.edict(0, 0);
        // As told the younger rules on day 0, so it is he who allows from day 1 on, however c is.
        chanceIs(x, 0, 1, 1, 1, 1);
        chanceIs(x, 8, 1, 2, 1, 1);
        x.leap(2);
        chanceIs(x, 8, 2, 1, 1, 1);
    }

    private static void year() {
        // LOTS of two by seed 1: 16838, 5758, 10113, 17515, 31051 .., so deeds 0, 0, 1, 1, 1.
        TwinKings x = Check.kings("1a;4f");
        int[] many = {0, 1, 2, 2, 3};
        int[] much = {0, 1, 5, 5, 9};
        for (int n = 1; n <= 5; n++) {
            due("35: year(1, " + n + ", 0)", x.year(1, n, 0), many[n - 1]);
            due("35: year(1, " + n + ", 1)", x.year(1, n, 1), much[n - 1]);
        }
        x.set(1, 1);
        x.does(0, 1, 5);
        due("35: whatever was done", x.year(1, 5, 1), 9);
        due("35: n below", x.year(1, 0, 0), BAD);
        due("35: n above", x.year(1, 41, 0), BAD);
        due("35: what below", x.year(1, 1, -1), BAD);
        due("35: what above", x.year(1, 1, 2), BAD);
        TwinKings one = Check.kings("2f");
        due("35: one deed", one.year(1, 3, 1), 4);
        TwinKings none = new TwinKings();
        due("35: no lots", none.year(Integer.MIN_VALUE, 40, 0), 0);
        due("35: no lots, no fines", none.year(-1, 40, 1), 0);
        due("35: bad without deeds", none.year(1, 0, 0), BAD);
        // 1103515245 * -1 + 12345 has the upper bits 48697 (from 0 on), so modulo 3 it is 1.
        TwinKings three = Check.kings("1a;5f;1a");
        due("35: the upper bits from 0 on", three.year(-1, 1, 1), 5);
    }
}
