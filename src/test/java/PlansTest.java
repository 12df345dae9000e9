/** Promises 23 to 27: when a deed can begin, how cheaply, tasks, words. */
public final class PlansTest {
    private static final int NONE = -1, BAD = -2;
    private static final Check CHECK = new Check();

    public static void main(String[] args) {
        soonest();
        cheapest();
        finish();
        finishThatFails();
        finishOfADeedThatComes();
        plan();
        planOfLikeOnes();
        words();
        wordsBesidesEdicts();
        wordsOfMany();
        wrongInputs();
        CHECK.end("PlansTest");
    }

    private static void due(String call, long got, long want) {
        CHECK.due(call, got, want);
    }

    private static void soonest() {
        // The elder's deed 0: even days and Sundays; the younger's deed 1: odd days and Sundays.
        TwinKings x = Check.kings("1a;1f");
        due("23: at once", x.soonest(0, 1, 0), 0);
        due("23: on the next day", x.soonest(1, 1, 0), 1);
        due("23: over a Sunday", x.soonest(0, 3, 0), 12);
        due("23: from a day on", x.soonest(0, 3, 13), 26);
        due("23: the last that fits", x.soonest(1, 3, 21), 33);
        due("23: none behind it", x.soonest(1, 3, 34), NONE);
        due("23: never so long", x.soonest(0, 4, 0), NONE);
        due("23: the last day", x.soonest(1, 1, 39), 39);
        due("23: to day 39 alone", x.soonest(1, 2, 39), NONE);
        x.edict(0, 1);
        due("23: nine, all allowed", x.soonest(1, 9, 0), 1);
        due("23: nine, up to day 39", x.soonest(1, 9, 31), 31);
        due("23: nine, beyond", x.soonest(1, 9, 32), NONE);
    }

    private static void cheapest() {
        TwinKings x = Check.kings("3a;0f");
        due("24: free", x.cheapest(0, 1, 0, 0), 0);
        due("24: free", x.cheapest(0, 1, 0, 1), 0);
        due("24: two days, from 0 on", x.cheapest(0, 2, 0, 0), 12);
        due("24: two days, how much", x.cheapest(0, 2, 0, 1), 0);
        due("24: four days", x.cheapest(0, 4, 0, 0), 10);
        due("24: four days, how much", x.cheapest(0, 4, 0, 1), 3);
        due("24: of like ones the first", x.cheapest(0, 2, 28, 0), 28);
        due("24: of like ones the first, how much", x.cheapest(0, 2, 28, 1), 3);
        due("24: no fine, so at once", x.cheapest(1, 9, 5, 0), 5);
        due("24: no fine", x.cheapest(1, 9, 5, 1), 0);
        due("24: the last that fits", x.cheapest(0, 9, 31, 0), 31);
        due("24: the last that fits, how much", x.cheapest(0, 9, 31, 1), 15);
        due("24: none fits", x.cheapest(0, 9, 32, 0), NONE);
        due("24: none fits, how much", x.cheapest(0, 9, 32, 1), NONE);
        x.set(1, 2);
        due("24: by court 1, whichever is set", x.cheapest(0, 4, 0, 1), 3);
    }

    private static void finish() {
        TwinKings x = Check.kings("1a;1f");
        due("25: no tasks", x.finish(0, NONE), NONE);
        due("25: no tasks, first", x.finish(0, 0), NONE);
        x.task(1, 1);
        x.task(0, 3);
        x.task(0, 1);
        due("25: first begins", x.finish(0, 0), 1);
        due("25: second begins", x.finish(0, 1), 12);
        due("25: third begins", x.finish(0, 2), 16);
        due("25: finish", x.finish(0, NONE), 16);
        due("25: no fourth", x.finish(0, 3), NONE);
        due("25: no sixth", x.finish(0, 5), NONE);
        due("25: from a later day", x.finish(12, NONE), 30);
        x.back(4);
        due("25: the last day of a long one", x.finish(0, NONE), 14);
        due("25: just in time", x.finish(25, NONE), 28);
        due("25: a day too late", x.finish(26, NONE), NONE);
        x.back(4);
        due("25: on the last day", x.finish(38, NONE), 39);
        due("25: on the last day, begins", x.finish(39, 0), 39);
    }

    /** Of a row of tasks that has no finish there is no start either, whichever task is asked for. */
    private static void noFinish(String why, TwinKings x, int day) {
        for (int i = NONE; i <= 5; i++) {
            due("25: " + why + ", i = " + i, x.finish(day, i), NONE);
        }
    }

    private static void finishThatFails() {
        for (int place = 0; place < 6; place++) {
            TwinKings x = Check.kings("1a;1f");
            for (int k = 0; k < 6; k++) {
                x.task(k == place ? 2 : 0, 1);
            }
            noFinish("task " + place + " is of no deed", x, 0);
        }
        TwinKings late = Check.kings("1a;1f");
        late.task(0, 1);
        late.task(0, 1);
        due("25: just in time, the first", late.finish(36, 0), 36);
        due("25: just in time, the second", late.finish(36, 1), 38);
        noFinish("no day is left for the second", late, 37);
        noFinish("nor for the first", late, 39);
        late.task(0, 4);
        noFinish("the last is allowed on no four days", late, 0);
        late.back(4);
        due("25: without it the first begins", late.finish(0, 0), 0);
        due("25: and the second", late.finish(0, 1), 2);
        TwinKings none = new TwinKings();
        none.task(0, 1);
        noFinish("there are no deeds", none, 0);
    }

    private static void finishOfADeedThatComes() {
        TwinKings x = Check.kings("3a");
        x.task(0, 1);
        x.task(1, 1);
        noFinish("the second's deed is not there yet", x, 0);
        x.type(';');
        x.type('1');
        noFinish("a fault: no deeds", x, 0);
        x.type('f');
        due("25: it is there: first", x.finish(0, 0), 0);
        due("25: it is there: second", x.finish(0, 1), 1);
        due("25: it is there: no third", x.finish(0, 2), NONE);
        x.undo();
        noFinish("a fault again", x, 0);
    }

    private static void plan() {
        TwinKings x = Check.kings("1a;1f");
        due("26: no tasks", x.plan(0, NONE), NONE);
        due("26: no tasks, first", x.plan(0, 0), NONE);
        due("26: no tasks, later", x.plan(5, NONE), NONE);
        x.task(0, 2);
        due("26: one task", x.plan(0, NONE), 13);
        x.back(4);
        // In turn: deed 0 on 0, deed 0 on 2, deed 1 on 3; by 0, 2, 1: 0, 1, 2.
        x.task(0, 1);
        x.task(0, 1);
        x.task(1, 1);
        due("26: finish", x.plan(0, NONE), 2);
        due("26: first", x.plan(0, 0), 0);
        due("26: second", x.plan(0, 1), 2);
        due("26: third", x.plan(0, 2), 1);
        due("26: no fourth", x.plan(0, 3), NONE);
        due("26: finish in their own row is another", x.finish(0, NONE), 3);
        due("26: too late", x.plan(38, NONE), NONE);
        due("26: too late, first", x.plan(38, 0), NONE);
        x.task(2, 1);
        due("26: one never can be done", x.plan(0, NONE), NONE);
        due("26: one never can be done, first", x.plan(0, 0), NONE);
    }

    private static void planOfLikeOnes() {
        TwinKings x = Check.kings("1a;1f");
        for (int k = 0; k < 6; k++) {
            x.task(0, 1);
        }
        for (int k = 0; k < 6; k++) {
            due("26: of like rows the least", x.plan(0, k), k);
        }
        due("26: six of the elder's", x.plan(0, NONE), 10);
        TwinKings y = Check.kings("1a;1f");
        y.task(1, 1);
        y.task(0, 1);
        // From day 0 the row 1, 0 ends on day 1, the row 0, 1 on day 2.
        due("26: the better row", y.plan(0, 0), 1);
        due("26: its finish", y.plan(0, NONE), 1);
        due("26: from day 1 on", y.plan(1, 0), 0);
        due("26: the last two days", y.plan(38, NONE), 39);
        due("26: the last two days, first", y.plan(38, 0), 1);
    }

    private static void words() {
        TwinKings x = Check.kings("1a");
        due("27: the younger rules behind it", x.words(0, 1, 0), 0);
        due("27: the least word", x.words(0, 1, 1), 0);
        due("27: the elder rules behind it", x.words(0, 2, 0), 1);
        due("27: he had better say nothing", x.words(0, 2, 1), 8);
        due("27: the younger wants few", x.words(1, 2, 0), 0);
        due("27: he had better say nothing", x.words(1, 2, 1), 8);
        due("27: a Sunday behind", x.words(5, 1, 0), 1);
        due("27: a Sunday behind, the least word", x.words(5, 1, 1), 0);
        due("27: none rules on a Sunday", x.words(6, 1, 1), NONE);
        due("27: but how many is known", x.words(6, 1, 0), 0);
        due("27: the last day", x.words(38, 1, 0), 0);
        due("27: three up to it", x.words(36, 3, 0), 0);
        x.leap(0);
        due("27: both rule", x.words(0, 1, 1), NONE);
        due("27: both rule, none may speak", x.words(0, 1, 0), 0);
        TwinKings none = new TwinKings();
        due("27: no deeds", none.words(0, 3, 0), 0);
        due("27: no deeds, no word", none.words(0, 3, 1), 8);
    }

    private static void wordsBesidesEdicts() {
        TwinKings x = Check.kings("1a");
        x.edict(0, 0);
        due("27: the elder undoes his edict", x.words(0, 2, 0), 1);
        due("27: the elder undoes his edict", x.words(0, 2, 1), 0);
        x.edict(1, 0);
        due("27: so does the younger", x.words(1, 2, 0), 0);
        due("27: so does the younger", x.words(1, 2, 1), 0);
        due("27: nothing is given by it", x.count(4), 2);
        due("27: nothing is changed by it", x.allows(39, 0) * 2 + x.allows(39, 1), 1);
    }

    private static void wordsOfMany() {
        // Both say the same at first: 0 and 1 allowed, 2 forbidden; a leap needs both.
        TwinKings x = Check.kings("1a;1a;1f;1a");
        x.set(0, 1);
        x.leap(2);
        // Younger at first: 1, 1, 1, 0. Elder speaks on 0, younger on 1, both rule on 2.
        due("27: elder adds 2, the younger takes one of three", x.words(0, 2, 0), 2);
        due("27: elder's word", x.words(0, 2, 1), 2);
        due("27: the younger's word, one of two", x.words(1, 1, 0), 1);
        due("27: the younger's least word", x.words(1, 1, 1), 0);
    }

    private static void wrongInputs() {
        TwinKings x = Check.kings("1a");
        x.task(0, 1);
        int[] wrongDays = {-1, 40, Integer.MIN_VALUE, Integer.MAX_VALUE};
        for (int day : wrongDays) {
            due("23: day " + day, x.soonest(0, 1, day), BAD);
            due("24: day " + day, x.cheapest(0, 1, day, 0), BAD);
            due("25: day " + day, x.finish(day, NONE), BAD);
            due("26: day " + day, x.plan(day, NONE), BAD);
            due("27: day " + day, x.words(day, 1, 0), BAD);
        }
        int[] wrongDeeds = {-1, 1, 8, Integer.MAX_VALUE};
        for (int deed : wrongDeeds) {
            due("23: deed " + deed, x.soonest(deed, 1, 0), BAD);
            due("24: deed " + deed, x.cheapest(deed, 1, 0, 0), BAD);
        }
        int[] wrongLengths = {0, 10, -1, Integer.MAX_VALUE};
        for (int days : wrongLengths) {
            due("23: days " + days, x.soonest(0, days, 0), BAD);
            due("24: days " + days, x.cheapest(0, days, 0, 0), BAD);
            due("27: n " + days, x.words(0, days, 0), BAD);
        }
        due("24: what below", x.cheapest(0, 1, 0, -1), BAD);
        due("24: what above", x.cheapest(0, 1, 0, 2), BAD);
        due("25: i below", x.finish(0, -2), BAD);
        due("25: i above", x.finish(0, 6), BAD);
        due("26: i below", x.plan(0, -2), BAD);
        due("26: i above", x.plan(0, 6), BAD);
        due("27: n above", x.words(0, 4, 0), BAD);
        due("27: what below", x.words(0, 1, -1), BAD);
        due("27: what above", x.words(0, 1, 2), BAD);
        due("27: beyond day 38", x.words(39, 1, 0), BAD);
        due("27: beyond day 38", x.words(38, 2, 0), BAD);
        due("27: beyond day 38", x.words(37, 3, 0), BAD);
    }
}
