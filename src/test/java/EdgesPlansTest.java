/** Promises 23 to 27 at their edges: when a deed can begin, how cheaply, tasks, words. */
public final class EdgesPlansTest {
    private static final int NONE = -1, BAD = -2;
    private static final Edges EDGES = new Edges();

    public static void main(String[] args) {
        soonest();
        soonestToTheLastDay();
        cheapest();
        cheapestToTheLastDay();
        cheapestOfLikeOnes();
        finish();
        finishOfNone();
        finishToTheLastDay();
        finishOfAllSix();
        plan();
        planToTheLastDay();
        planOfAllSix();
        words();
        wordsToDay38();
        wordsOfNone();
        wordsOfEight();
        EDGES.end("EdgesPlansTest");
    }

    private static void due(String call, long got, long want) {
        EDGES.due(call, got, want);
    }

    // ---- promise 23

    private static void soonest() {
        EDGES.takesDeed("23: deed", (x, v) -> x.soonest(v, 1, 0));
        EDGES.takes("23: days", 1, 9, (x, v) -> x.soonest(0, v, 0));
        EDGES.takes("23: day", 0, 39, (x, v) -> x.soonest(0, 1, v));
        TwinKings closed = Realm.closed();
        due("23: the first Sunday", closed.soonest(0, 1, 0), 6);
        due("23: from that one on", closed.soonest(0, 1, 6), 6);
        due("23: from the next day on", closed.soonest(0, 1, 7), 13);
        due("23: the last Sunday", closed.soonest(0, 1, 34), 34);
        due("23: none behind it", closed.soonest(0, 1, 35), NONE);
        due("23: two days never", closed.soonest(0, 2, 0), NONE);
    }

    /** It may end on day 39 and not behind it, however long it goes on. */
    private static void soonestToTheLastDay() {
        TwinKings x = Realm.open();
        for (int days = 1; days <= 9; days++) {
            due("23: " + days + " days at once", x.soonest(1, days, 0), 0);
            due("23: " + days + " days to day 39", x.soonest(1, days, 40 - days), 40 - days);
            due("23: " + days + " days, a day later", x.soonest(1, days, 41 - days), days == 1 ? BAD : NONE);
            due("23: " + days + " days on day 39", x.soonest(1, days, 39), days == 1 ? 39 : NONE);
        }
    }

    // ---- promise 24

    private static void cheapest() {
        EDGES.takesDeed("24: deed", (x, v) -> x.cheapest(v, 1, 0, 0));
        EDGES.takesDeed("24: deed, how much", (x, v) -> x.cheapest(v, 1, 0, 1));
        EDGES.takes("24: days", 1, 9, (x, v) -> x.cheapest(0, v, 0, 0));
        EDGES.takes("24: day", 0, 39, (x, v) -> x.cheapest(0, 1, v, 0));
        EDGES.takes("24: what", 0, 1, (x, v) -> x.cheapest(0, 1, 0, v));
    }

    private static void cheapestToTheLastDay() {
        TwinKings x = Realm.closed();
        for (int days = 1; days <= 9; days++) {
            int last = 40 - days;
            int closedDays = last <= 34 ? days - 1 : days;
            due("24: " + days + " days to day 39", x.cheapest(0, days, last, 0), last);
            due("24: " + days + " days to day 39, how much", x.cheapest(0, days, last, 1), 9 * closedDays);
            int beyond = days == 1 ? BAD : NONE;
            due("24: " + days + " days, a day later", x.cheapest(0, days, last + 1, 0), beyond);
            due("24: " + days + " days, a day later, how much", x.cheapest(0, days, last + 1, 1), beyond);
        }
    }

    private static void cheapestOfLikeOnes() {
        TwinKings closed = Realm.closed();
        // Two Sundays are in nine days from day 5 on and from day 6 on: of these the first.
        due("24: the first of the cheapest", closed.cheapest(0, 9, 0, 0), 5);
        due("24: seven days are fined", closed.cheapest(0, 9, 0, 1), 63);
        due("24: from that day on", closed.cheapest(0, 9, 6, 0), 6);
        due("24: from the next one on", closed.cheapest(0, 9, 7, 0), 12);
        due("24: none cheaper on the last days", closed.cheapest(1, 1, 35, 0), 35);
        due("24: none cheaper, how much", closed.cheapest(1, 1, 35, 1), 4);
        TwinKings open = Realm.open();
        due("24: nothing is fined: at once", open.cheapest(0, 9, 31, 0), 31);
        due("24: nothing is fined", open.cheapest(0, 9, 31, 1), 0);
        TwinKings free = Check.kings("0f;0f");
        free.set(0, 2);
        due("24: fines of 0: at once", free.cheapest(0, 9, 0, 0), 0);
        due("24: fines of 0", free.cheapest(0, 9, 0, 1), 0);
    }

    // ---- promise 25

    private static void finish() {
        EDGES.takes("25: day", 0, 39, (x, v) -> x.finish(v, NONE));
        EDGES.takes("25: day, the first task", 0, 39, (x, v) -> x.finish(v, 0));
        EDGES.takes("25: i", NONE, 5, (x, v) -> x.finish(0, v));
    }

    private static void finishOfNone() {
        for (int i = NONE; i <= 5; i++) {
            int asked = i;
            EDGES.keeps("25: no tasks, i = " + i, Realm::empty, x -> x.finish(0, asked), NONE);
            EDGES.keeps("26: no tasks, i = " + i, Realm::empty, x -> x.plan(0, asked), NONE);
            EDGES.keeps("25: no deeds, i = " + i, Realm::faulty, x -> x.finish(0, asked), NONE);
            EDGES.keeps("26: no deeds, i = " + i, Realm::faulty, x -> x.plan(0, asked), NONE);
        }
        TwinKings x = Realm.few();
        due("25: one task", x.finish(0, 0), 0);
        due("25: a second there is not", x.finish(0, 1), NONE);
        x.back(4);
        due("25: it is undone", x.finish(0, 0), NONE);
        due("26: it is undone", x.plan(0, NONE), NONE);
    }

    private static void finishToTheLastDay() {
        for (int days = 1; days <= 5; days++) {
            TwinKings x = Realm.open();
            x.task(1, days);
            due("25: " + days + " days at once", x.finish(0, NONE), days - 1);
            due("25: " + days + " days to day 39", x.finish(40 - days, NONE), 39);
            due("25: " + days + " days to day 39, begins", x.finish(40 - days, 0), 40 - days);
            due("25: " + days + " days, a day later", x.finish(41 - days, NONE), days == 1 ? BAD : NONE);
            due("25: " + days + " days, a day later, begins", x.finish(41 - days, 0), days == 1 ? BAD : NONE);
        }
        TwinKings two = Realm.closed();
        two.task(0, 1);
        two.task(1, 1);
        due("25: the last two Sundays", two.finish(27, NONE), 34);
        due("25: the last but one", two.finish(27, 0), 27);
        due("25: the last one", two.finish(27, 1), 34);
        due("25: a Sunday is missing", two.finish(28, NONE), NONE);
        due("25: a Sunday is missing for the first as well", two.finish(28, 0), NONE);
    }

    private static TwinKings withSix(int days) {
        TwinKings x = Realm.open();
        for (int k = 0; k < 6; k++) {
            x.task(k % 2, days);
        }
        return x;
    }

    private static void finishOfAllSix() {
        TwinKings x = withSix(5);
        due("25: six of five days", x.finish(0, NONE), 29);
        due("25: the last day from which on they can be", x.finish(10, NONE), 39);
        due("25: a day later", x.finish(11, NONE), NONE);
        for (int i = 0; i <= 5; i++) {
            due("25: six, begins " + i, x.finish(0, i), 5 * i);
            due("25: six to day 39, begins " + i, x.finish(10, i), 10 + 5 * i);
            due("25: six, a day later, " + i, x.finish(11, i), NONE);
        }
        TwinKings short6 = withSix(1);
        due("25: six of one day to day 39", short6.finish(34, NONE), 39);
        due("25: six of one day, a day later", short6.finish(35, NONE), NONE);
        TwinKings noDeed = Realm.open();
        noDeed.task(1, 1);
        due("25: of the last deed that there is", noDeed.finish(0, NONE), 0);
        noDeed.back(4);
        noDeed.task(2, 1);
        due("25: of the next one", noDeed.finish(0, NONE), NONE);
        due("26: of the next one", noDeed.plan(0, NONE), NONE);
    }

    // ---- promise 26

    private static void plan() {
        EDGES.takes("26: day", 0, 39, (x, v) -> x.plan(v, NONE));
        EDGES.takes("26: day, the first task", 0, 39, (x, v) -> x.plan(v, 0));
        EDGES.takes("26: i", NONE, 5, (x, v) -> x.plan(0, v));
        TwinKings x = Realm.few();
        due("26: one task", x.plan(0, 0), 0);
        due("26: a second there is not", x.plan(0, 1), NONE);
    }

    /** Deed 0 can be on even days, deed 1 on odd ones: the row 1, 0 ends a day later or sooner than 0, 1. */
    private static void planToTheLastDay() {
        TwinKings x = Check.kings("1a;1f");
        x.task(1, 1);
        x.task(0, 1);
        due("26: from day 38 on, finish", x.plan(38, NONE), 39);
        due("26: from day 38 on, the first is task", x.plan(38, 0), 1);
        due("26: from day 38 on, the second is task", x.plan(38, 1), 0);
        due("26: no third", x.plan(38, 2), NONE);
        due("26: in their own row there is no finish", x.finish(38, NONE), NONE);
        for (int i = NONE; i <= 5; i++) {
            due("26: from day 39 on by none, i = " + i, x.plan(39, i), NONE);
        }
        due("26: from day 37 on, the least row", x.plan(37, 0), 0);
        due("26: from day 37 on, finish", x.plan(37, NONE), 38);
    }

    private static void planOfAllSix() {
        TwinKings like = withSix(5);
        due("26: six of five days to day 39", like.plan(10, NONE), 39);
        due("26: a day later", like.plan(11, NONE), NONE);
        for (int i = 0; i <= 5; i++) {
            due("26: of like rows the least, " + i, like.plan(10, i), i);
            due("26: by none, " + i, like.plan(11, i), NONE);
        }
        // Three tasks can be on odd days alone, three on even ones: only by turns there is no day between.
        TwinKings x = Check.kings("1a;1f");
        int[] deeds = {1, 0, 1, 0, 1, 0};
        for (int deed : deeds) {
            x.task(deed, 1);
        }
        due("26: six days by turns", x.plan(0, NONE), 5);
        int[] row = {1, 0, 3, 2, 5, 4};
        for (int i = 0; i <= 5; i++) {
            due("26: the least of the soonest rows, " + i, x.plan(0, i), row[i]);
        }
        due("26: from the last day on from which it can be", x.plan(34, NONE), 39);
        due("26: a day later", x.plan(35, NONE), NONE);
    }

    // ---- promise 27

    private static void words() {
        EDGES.takes("27: day", 0, 38, (x, v) -> x.words(v, 1, 0));
        EDGES.takes("27: day, what is said", 0, 38, (x, v) -> x.words(v, 1, 1));
        EDGES.takes("27: n", 1, 3, (x, v) -> x.words(0, v, 0));
        EDGES.takes("27: what", 0, 1, (x, v) -> x.words(0, 1, v));
    }

    private static void wordsToDay38() {
        for (int k = 1; k <= 3; k++) {
            int n = k;
            EDGES.takes("27: " + n + " days to day 38", 0, 39 - n, (x, v) -> x.words(v, n, 0));
            EDGES.takes("27: " + n + " days to day 38, what is said", 0, 39 - n, (x, v) -> x.words(v, n, 1));
        }
        EDGES.takes("27: n from day 37 on", 1, 2, (x, v) -> x.words(37, v, 0));
        EDGES.takes("27: n from day 38 on", 1, 1, (x, v) -> x.words(38, v, 0));
        // Day 39 is the younger's: of two open deeds he closes one on day 37, and no more can be done on day 38.
        TwinKings x = Realm.open();
        due("27: the elder's word of day 38 is none of the younger's", x.words(38, 1, 0), 2);
        due("27: he says the least", x.words(38, 1, 1), 0);
        due("27: the younger's word of day 37", x.words(37, 2, 0), 1);
        due("27: his least", x.words(37, 2, 1), 0);
        due("27: three days, the younger speaks once", x.words(36, 3, 0), 1);
    }

    private static void wordsOfNone() {
        EDGES.keeps("27: no deeds, how many", Realm::empty, x -> x.words(0, 3, 0), 0);
        EDGES.keeps("27: no deeds, none is said", Realm::empty, x -> x.words(0, 3, 1), 8);
        EDGES.keeps("27: a fault, how many", Realm::faulty, x -> x.words(2, 3, 0), 0);
        EDGES.keeps("27: a fault, none is said", Realm::faulty, x -> x.words(2, 3, 1), 8);
        TwinKings x = Realm.closed();
        due("27: a Sunday first: none rules alone", x.words(6, 1, 1), NONE);
        due("27: a Sunday first, how many", x.words(6, 1, 0), 0);
        due("27: a Sunday first, but then the younger speaks", x.words(6, 2, 0), 0);
        due("27: a Sunday behind: all", x.words(5, 1, 0), 2);
        x.leap(0);
        due("27: a leap first: none rules alone", x.words(0, 1, 1), NONE);
        x.sick(0, 2);
        x.sick(1, 2);
        due("27: both are sick: none rules", x.words(2, 1, 1), NONE);
        x.sick(0, 4);
        due("27: the younger rules for the elder", x.words(4, 1, 1), 8);
        due("27: he had better say nothing", x.words(4, 1, 0), 0);
    }

    /** Each king's word can be of each deed that there is, up to the eighth. */
    private static void wordsOfEight() {
        TwinKings x = Check.kings("1a;1a;1a;1a;1a;1a;1a;1f");
        x.leap(1);
        due("27: both rule behind it and agree on the last alone if the elder says so", x.words(0, 1, 0), 1);
        due("27: he says the eighth", x.words(0, 1, 1), 7);
        TwinKings seven = Check.kings("1a;1a;1a;1a;1a;1a;1a");
        seven.leap(1);
        due("27: of seven deeds none can be won", seven.words(0, 1, 0), 0);
        due("27: so he says the least", seven.words(0, 1, 1), 0);
        TwinKings best = Check.kings("1a;1a;1a;1a;1a;1a;1a;1a");
        best.sick(1, 1);
        due("27: all are allowed: any word is worse than none", best.words(0, 1, 0), 8);
        due("27: none is said", best.words(0, 1, 1), 8);
        // The elder allows 1 and 2, the younger 0 and 1; both rule behind it, so he closes 1.
        TwinKings younger = Check.kings("1f;1a;1a");
        younger.set(0, 2);
        younger.leap(2);
        due("27: the younger wants none", younger.words(1, 1, 0), 0);
        due("27: and has just one word for it", younger.words(1, 1, 1), 1);
    }
}
