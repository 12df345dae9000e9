/** Promises 28 to 35 at their edges: what was seen, the book, chance, years. */
public final class EdgesSeenTest {
    private static final int NONE = -1, BAD = -2, FULL = -4;
    private static final long LONG_BAD = Long.MIN_VALUE + 2;
    private static final Edges EDGES = new Edges();

    public static void main(String[] args) {
        seen();
        book();
        forget();
        when();
        whenByWhatWasSeen();
        ask();
        askOfEight();
        forged();
        forgedByTheLast();
        forgedOfNoDeed();
        chance();
        chanceToTheLastDay();
        chanceAtTheEnds();
        chanceOfLeapsAndSundays();
        year();
        yearsThatWrap();
        yearOfNone();
        EDGES.end("EdgesSeenTest");
    }

    private static void due(String call, long got, long want) {
        EDGES.due(call, got, want);
    }

    // ---- promises 28 to 30

    private static void seen() {
        EDGES.takes("28: deed", 0, 7, (x, v) -> x.seen(v, 0));
        EDGES.takes("28: is", 0, 1, (x, v) -> x.seen(0, v));
        EDGES.fills("28: seen", 8, x -> x.seen(7, 1));
        TwinKings x = Realm.full();
        due("28: all seen are forgotten", x.forget(0), 8);
        for (int k = 1; k <= 8; k++) {
            due("28: room for " + k, x.seen(0, 0), k);
        }
        due("28: full again", x.seen(0, 0), FULL);
    }

    private static void book() {
        EDGES.takes("29: day", 0, 39, (x, v) -> x.book(v, 0, 0));
        EDGES.takes("29: deed", 0, 7, (x, v) -> x.book(0, v, 0));
        EDGES.takes("29: is", 0, 1, (x, v) -> x.book(0, 0, v));
        EDGES.fills("29: book", 8, x -> x.book(39, 7, 1));
        TwinKings x = Realm.full();
        due("29: the book is forgotten", x.forget(1), 8);
        for (int k = 1; k <= 8; k++) {
            due("29: room for " + k, x.book(0, 0, 0), k);
        }
        due("29: full again", x.book(0, 0, 0), FULL);
    }

    private static void forget() {
        EDGES.takes("30: what", 0, 1, TwinKings::forget);
        EDGES.keeps("30: none was seen", Realm::empty, x -> x.forget(0), 0);
        EDGES.keeps("30: none is booked", Realm::empty, x -> x.forget(1), 0);
        TwinKings one = Realm.few();
        due("30: one was seen", one.forget(0), 1);
        due("30: none was seen by now", one.forget(0), 0);
        due("30: one is booked", one.forget(1), 1);
        due("30: none is booked by now", one.forget(1), 0);
        TwinKings x = Realm.full();
        due("30: eight were seen", x.forget(0), 8);
        due("30: the book stays full", x.book(0, 0, 0), FULL);
        due("30: eight are booked", x.forget(1), 8);
        due("30: none is left", x.count(7), 0);
    }

    // ---- promises 31 and 32

    private static void when() {
        EDGES.takes("31: i", NONE, 39, TwinKings::when);
        TwinKings x = new TwinKings();
        due("31: nothing was seen: all days", x.when(NONE), 40);
        due("31: the first of them", x.when(0), 0);
        due("31: the last of them", x.when(39), 39);
    }

    private static void whenByWhatWasSeen() {
        TwinKings x = Realm.closed();
        x.seen(1, 1);
        int[] sundays = {6, 13, 20, 27, 34};
        due("31: Sundays", x.when(NONE), 5);
        for (int i = 0; i < 5; i++) {
            due("31: Sunday " + i, x.when(i), sundays[i]);
        }
        due("31: a sixth there is not", x.when(5), NONE);
        due("31: nor a fortieth", x.when(39), NONE);
        x.seen(1, 0);
        due("31: both are never so", x.when(NONE), 0);
        due("31: both are never so, the first", x.when(0), NONE);
        x.forget(0);
        x.seen(1, 0);
        due("31: all but Sundays", x.when(NONE), 35);
        due("31: the last of them", x.when(34), 39);
        due("31: none behind it", x.when(35), NONE);
        for (int is = 0; is <= 1; is++) {
            x.forget(0);
            x.seen(2, is);
            due("31: of a deed that there is not, " + is, x.when(NONE), 0);
            due("31: of a deed that there is not, the first, " + is, x.when(0), NONE);
        }
        TwinKings eighth = Check.kings("1a");
        for (int k = 0; k < 7; k++) {
            eighth.seen(0, 1);
        }
        due("31: seven times the same", eighth.when(NONE), 22);
        eighth.seen(0, 0);
        due("31: the eighth counts as well", eighth.when(NONE), 0);
    }

    private static void ask() {
        EDGES.keeps("32: no deeds", Realm::empty, TwinKings::ask, NONE);
        EDGES.keeps("32: a fault", Realm::faulty, TwinKings::ask, NONE);
        due("32: one deed", Check.kings("1a").ask(), 0);
        TwinKings never = Check.kings("1a;1f");
        never.seen(7, 1);
        due("32: there is no such day: all are alike, the least", never.ask(), 0);
    }

    /** Of seven deeds that both kings allow nothing is told; of the eighth something is. */
    private static void askOfEight() {
        TwinKings x = Realm.byRule(1, "1a;1a;1a;1a;1a;1a;1a;1f");
        x.leap(6);
        // Deed 6 is the elder's alone, deed 7 the younger's: 22 less the leap of 6, and 23 less it.
        due("32: 21 and 19 beat 22 and 18", x.ask(), 6);
        x.seen(6, 0);
        // On those 19 days deed 7 is allowed but for day 6.
        due("32: the last of eight", x.ask(), 7);
        TwinKings like = Realm.byRule(2, "1a;1a;1a;1a;1a;1a;1a;1a");
        due("32: of like ones the least", like.ask(), 0);
    }

    // ---- promise 33

    private static void forged() {
        EDGES.keeps("33: no edicts", Realm::empty, TwinKings::forged, 0);
        TwinKings x = Check.kings("1a");
        x.book(0, 0, 1);
        due("33: no edicts, the book being right", x.forged(), 0);
        for (int k = 1; k <= 10; k++) {
            x.edict(6, 0);
            due("33: each of " + k + " that nobody heard", x.forged(), (1 << k) - 1);
        }
        x.book(0, 0, 0);
        due("33: the book speaks against itself", x.forged(), 0);
        x.forget(1);
        due("33: an empty book", x.forged(), 1023);
        TwinKings none = new TwinKings();
        none.edict(39, 7);
        due("33: no deeds, an empty book", none.forged(), 1);
    }

    /** The tenth edict and the eighth in the book count as the first ones do; the last day is day 39. */
    private static void forgedByTheLast() {
        TwinKings x = Check.kings("1a");
        for (int k = 0; k < 9; k++) {
            x.edict(6, 0);
        }
        x.edict(37, 0);
        for (int k = 0; k < 7; k++) {
            x.book(0, 0, 1);
        }
        due("33: seven that are so anyway", x.forged(), 1023);
        x.book(39, 0, 0);
        due("33: by the eighth it was the tenth", x.forged(), 512);
        TwinKings late = Check.kings("1a");
        late.edict(39, 0);
        late.book(39, 0, 1);
        due("33: an edict of day 39 is none on it", late.forged(), 0);
        late.forget(1);
        late.book(39, 0, 0);
        due("33: with it or without it", late.forged(), 1);
    }

    private static void forgedOfNoDeed() {
        for (int is = 0; is <= 1; is++) {
            TwinKings x = is == 1 ? Realm.open() : Realm.closed();
            x.edict(6, 0);
            x.book(0, 1, is);
            due("33: of the last deed that there is, " + is, x.forged(), 1);
            x.book(0, 2, is);
            due("33: of the next one neither is ever so, " + is, x.forged(), 0);
            x.forget(1);
            x.book(6, 7, is);
            due("33: nor on a Sunday, " + is, x.forged(), 0);
        }
    }

    // ---- promise 34

    private static void chance() {
        Edges edges = EDGES.whoseBadIs(LONG_BAD);
        edges.takes("34: c", 0, 16, (x, v) -> x.chance(v, 0, 0, 1, 0));
        edges.takes("34: day", 0, 39, (x, v) -> x.chance(8, v, 0, 1, 0));
        edges.takesDeed("34: deed", (x, v) -> x.chance(8, 0, v, 1, 0));
        edges.takesDeed("34: deed, below", (x, v) -> x.chance(8, 0, v, 1, 1));
        edges.takes("34: days", 1, 6, (x, v) -> x.chance(8, 0, 0, v, 0));
        edges.takes("34: what", 0, 1, (x, v) -> x.chance(8, 0, 0, 1, v));
        due("34: BAD is the least long and 2 more", new TwinKings().chance(0, 0, 0, 1, 0), -9223372036854775806L);
    }

    private static void chanceToTheLastDay() {
        Edges edges = EDGES.whoseBadIs(LONG_BAD);
        for (int k = 1; k <= 6; k++) {
            int days = k;
            edges.takes("34: " + days + " days to day 39", 0, 40 - days, (x, v) -> x.chance(8, v, 0, days, 0));
        }
        edges.takes("34: days from day 38 on", 1, 2, (x, v) -> x.chance(8, 38, 0, v, 1));
        edges.takes("34: days from day 39 on", 1, 1, (x, v) -> x.chance(8, 39, 0, v, 1));
    }

    private static void chanceIs(String what, TwinKings x, int[] call, long above, long below) {
        due("34: " + what + ", above", x.chance(call[0], call[1], 0, call[2], 0), above);
        due("34: " + what + ", below", x.chance(call[0], call[1], 0, call[2], 1), below);
    }

    private static void chanceAtTheEnds() {
        TwinKings closed = Realm.closed();
        chanceIs("never sick: 0 by 1", closed, new int[] {0, 0, 6}, 0, 1);
        chanceIs("always sick: 1 by 1", closed, new int[] {16, 0, 6}, 1, 1);
        chanceIs("both sick on six days, the least there is", closed, new int[] {1, 0, 6}, 1, 1L << 48);
        chanceIs("all but always sick", closed, new int[] {15, 0, 6}, 129746337890625L, 1L << 48);
        chanceIs("one day", closed, new int[] {1, 39, 1}, 1, 256);
        chanceIs("in lowest terms", closed, new int[] {2, 39, 1}, 1, 64);
        TwinKings open = Realm.open();
        chanceIs("all is allowed, never sick", open, new int[] {0, 34, 6}, 1, 1);
        chanceIs("all is allowed, by chance", open, new int[] {7, 34, 6}, 1, 1);
        TwinKings elder = Check.kings("1a");
        chanceIs("the elder's day, never sick", elder, new int[] {0, 38, 1}, 1, 1);
        chanceIs("the younger's day, never sick", elder, new int[] {0, 39, 1}, 0, 1);
        chanceIs("a day of either, never sick", elder, new int[] {0, 38, 2}, 0, 1);
        chanceIs("a day of either", elder, new int[] {15, 38, 2}, 241L * 15, 256 * 16);
    }

    private static void chanceOfLeapsAndSundays() {
        TwinKings x = Realm.closed();
        chanceIs("a Sunday", x, new int[] {0, 6, 1}, 1, 1);
        chanceIs("the day ahead of it as well", x, new int[] {4, 5, 2}, 1, 16);
        x.leap(6);
        chanceIs("a leap, always sick", x, new int[] {16, 6, 1}, 0, 1);
        chanceIs("a leap among days", x, new int[] {16, 4, 6}, 0, 1);
        TwinKings open = Realm.open();
        open.leap(6);
        open.leap(39);
        chanceIs("a leap on which both allow it", open, new int[] {8, 6, 1}, 1, 1);
        chanceIs("the last day being such a leap", open, new int[] {8, 34, 6}, 1, 1);
        TwinKings told = Check.kings("1a");
        told.sick(0, 0);
        told.sick(1, 0);
        told.edict(0, 0);
        chanceIs("what is told of the sick does not count", told, new int[] {0, 0, 1}, 1, 1);
        chanceIs("but for who gave the edicts: none did", told, new int[] {0, 2, 1}, 1, 1);
        told.back(0);
        chanceIs("the younger gave it", told, new int[] {0, 1, 1}, 1, 1);
    }

    // ---- promise 35

    private static void year() {
        EDGES.takes("35: n", 1, 40, (x, v) -> x.year(7, v, 0));
        EDGES.takes("35: n, how much", 1, 40, (x, v) -> x.year(7, v, 1));
        EDGES.takes("35: what", 0, 1, (x, v) -> x.year(7, 1, v));
        TwinKings closed = Realm.byRule(2, "9f;9f");
        due("35: the first day", closed.year(0, 1, 0), 1);
        due("35: the first Sunday is free", closed.year(0, 7, 0), 6);
        due("35: the first Sunday is free, how much", closed.year(0, 7, 1), 54);
        due("35: all days but Sundays", closed.year(0, 40, 0), 35);
        due("35: all days but Sundays, how much", closed.year(0, 40, 1), 315);
        TwinKings open = Realm.open();
        due("35: nothing is forbidden", open.year(0, 40, 0) + open.year(0, 40, 1), 0);
    }

    /** The lots once more, by longs of which 32 bits are kept. */
    private static int lots(int seed, int n, int number) {
        long state = seed & 0xffffffffL;
        long deed = 0;
        for (int day = 0; day < n; day++) {
            state = (1103515245L * state + 12345L) % (1L << 32);
            deed = state / 65536 % number;
        }
        return (int) deed;
    }

    /** Both kings forbid all deeds, whose fines tell them apart, so what a day more costs tells its lot. */
    private static void yearsThatWrap() {
        String deeds = "1f;2f;3f;4f;5f;6f;7f;8f";
        int[] seeds = {Integer.MIN_VALUE, Integer.MIN_VALUE + 1, -1, 0, 1, 7, 65535, 65536, Integer.MAX_VALUE};
        for (int number = 1; number <= 8; number++) {
            for (int seed : seeds) {
                TwinKings x = Realm.byRule(2, deeds.substring(0, 3 * number - 1));
                for (int n = 1; n <= 6; n++) {
                    int cost = x.year(seed, n, 1) - (n == 1 ? 0 : x.year(seed, n - 1, 1));
                    due("35: year(" + seed + ", " + n + ", 1) of " + number, cost, lots(seed, n, number) + 1);
                }
            }
        }
    }

    private static void yearOfNone() {
        EDGES.keeps("35: no deeds", Realm::empty, x -> x.year(Integer.MAX_VALUE, 40, 0), 0);
        EDGES.keeps("35: no deeds, how much", Realm::empty, x -> x.year(Integer.MIN_VALUE, 40, 1), 0);
        EDGES.keeps("35: a fault", Realm::faulty, x -> x.year(-1, 1, 0), 0);
        EDGES.keeps("35: no deeds and no days", Realm::empty, x -> x.year(1, 0, 0), BAD);
        EDGES.keeps("35: no deeds and too many days", Realm::empty, x -> x.year(1, 41, 0), BAD);
    }
}
