/** Promises 15 to 22 at their edges: who rules, what is allowed, what is fined. */
public final class EdgesLawsTest {
    private static final int NONE = -1, BAD = -2, BOTH = 2;
    private static final Edges EDGES = new Edges();

    public static void main(String[] args) {
        rules();
        rulesOnSundays();
        rulesByTheSick();
        allows();
        allowsFromTheNextDayOn();
        allowed();
        never();
        alike();
        alikeAtTheEnds();
        crossing();
        crossingAtTheEnds();
        fined();
        finedByCourt();
        finedOfNoDeed();
        coins();
        coinsByWhoRules();
        EDGES.end("EdgesLawsTest");
    }

    private static void due(String call, long got, long want) {
        EDGES.due(call, got, want);
    }

    // ---- promise 15

    private static void rules() {
        EDGES.takes("15: day", 0, 39, TwinKings::rules);
        TwinKings x = new TwinKings();
        due("15: the first day", x.rules(0), 0);
        due("15: the last day", x.rules(39), 1);
    }

    private static void rulesOnSundays() {
        TwinKings x = new TwinKings();
        int sundays = 0;
        for (int day = 0; day < 40; day++) {
            sundays += x.rules(day) == NONE ? 1 : 0;
        }
        due("15: five Sundays", sundays, 5);
        int[] days = {6, 13, 20, 27, 34};
        for (int day : days) {
            due("15: Sunday " + day, x.rules(day), NONE);
            due("15: the day ahead of it", x.rules(day - 1), (day - 1) % 2);
            due("15: the day behind it", x.rules(day + 1), (day + 1) % 2);
        }
        x.leap(34);
        due("15: a leap comes ahead of a Sunday", x.rules(34), BOTH);
    }

    private static TwinKings withSick(int day, boolean elder, boolean younger) {
        TwinKings x = new TwinKings();
        if (elder) {
            x.sick(0, day);
        }
        if (younger) {
            x.sick(1, day);
        }
        return x;
    }

    private static void rulesByTheSick() {
        int[] days = {0, 1, 6, 13, 38, 39};
        int[] elderSick = {1, 1, NONE, NONE, 1, 1};
        int[] youngerSick = {0, 0, NONE, NONE, 0, 0};
        for (int k = 0; k < days.length; k++) {
            int day = days[k];
            due("15: the elder is sick on " + day, withSick(day, true, false).rules(day), elderSick[k]);
            due("15: the younger is sick on " + day, withSick(day, false, true).rules(day), youngerSick[k]);
            TwinKings both = withSick(day, true, true);
            due("15: both are sick on " + day, both.rules(day), NONE);
            both.leap(day);
            due("15: a leap comes ahead of the sick on " + day, both.rules(day), BOTH);
        }
        TwinKings twice = withSick(0, true, false);
        twice.sick(0, 0);
        due("15: the same one told twice is one", twice.rules(0), 1);
    }

    // ---- promises 16 and 17

    private static void allows() {
        EDGES.takes("16: day", 0, 39, (x, v) -> x.allows(v, 0));
        EDGES.takes("16: king", 0, 1, (x, v) -> x.allows(0, v));
        TwinKings none = new TwinKings();
        due("16: no deeds, the elder", none.allows(39, 0), 0);
        due("16: no deeds, the younger", none.allows(39, 1), 0);
        TwinKings all = Check.kings("1a;1a;1a;1a;1a;1a;1a;1a");
        due("16: all of eight", all.allows(0, 0), 255);
        due("16: none of eight", all.allows(0, 1), 0);
    }

    /** An edict of each day: not on that day, from the next one on, and of day 39 never. */
    private static void allowsFromTheNextDayOn() {
        for (int day = 0; day < 40; day++) {
            TwinKings x = Check.kings("1a");
            int ruler = x.rules(day);
            x.edict(day, 0);
            int elder = ruler == 0 ? 0 : 1;
            int younger = ruler == 1 ? 1 : 0;
            due("16: edict of day " + day + ", the elder then", x.allows(day, 0), 1);
            due("16: edict of day " + day + ", the younger then", x.allows(day, 1), 0);
            due("16: edict of day " + day + ", the elder at last", x.allows(39, 0), day == 39 ? 1 : elder);
            due("16: edict of day " + day + ", the younger at last", x.allows(39, 1), day == 39 ? 0 : younger);
            if (day < 39) {
                due("16: edict of day " + day + ", the elder next", x.allows(day + 1, 0), elder);
                due("16: edict of day " + day + ", the younger next", x.allows(day + 1, 1), younger);
            }
        }
        TwinKings leap = Check.kings("1a");
        leap.leap(38);
        leap.edict(38, 0);
        due("16: by both on a leap, the elder", leap.allows(39, 0), 0);
        due("16: by both on a leap, the younger", leap.allows(39, 1), 1);
    }

    private static void allowed() {
        EDGES.takes("17: day", 0, 39, TwinKings::allowed);
        due("17: no deeds on a Sunday", new TwinKings().allowed(6), 0);
        TwinKings x = Check.kings(Realm.EIGHT);
        due("17: eight on a Sunday", x.allowed(34), 255);
        due("17: the elder's first day", x.allowed(0), 0x55);
        due("17: the younger's last day", x.allowed(39), 0xaa);
        x.leap(39);
        due("17: both rule and agree on none", x.allowed(39), 0);
        TwinKings open = Realm.open();
        open.leap(39);
        due("17: both rule and agree on all", open.allowed(39), 3);
        TwinKings closed = Realm.closed();
        due("17: none on the first day", closed.allowed(0), 0);
        due("17: all on a Sunday", closed.allowed(6), 3);
        closed.sick(0, 0);
        due("17: the other one forbids as well", closed.allowed(0), 0);
        closed.sick(1, 0);
        due("17: both are sick: all", closed.allowed(0), 3);
    }

    // ---- promises 18 and 19

    /** Five Sundays and four leaps at most: one Sunday is always left on which all is allowed. */
    private static void never() {
        EDGES.keeps("18: no deeds", Realm::empty, TwinKings::never, 0);
        EDGES.keeps("18: a fault", Realm::faulty, TwinKings::never, 0);
        EDGES.keeps("18: eight", Realm::full, TwinKings::never, 0);
        int[] sundays = {6, 13, 20, 27, 34};
        for (int left : sundays) {
            TwinKings x = Realm.closed();
            for (int day : sundays) {
                if (day != left) {
                    x.leap(day);
                }
            }
            due("18: Sunday " + left + " alone is left", x.never(), 0);
            due("18: all is allowed on it", x.allowed(left), 3);
            due("18: on the day behind it none is", x.allowed(left + 1), 0);
        }
    }

    private static void alike() {
        EDGES.keeps("19: no deeds", Realm::empty, TwinKings::alike, 0);
        EDGES.keeps("19: a fault", Realm::faulty, TwinKings::alike, 0);
        EDGES.keeps("19: never", Realm::few, TwinKings::alike, NONE);
        due("19: at first, both allow all", Realm.open().alike(), 0);
        due("19: at first, both forbid all", Realm.closed().alike(), 0);
        due("19: one deed, never", Check.kings("1a").alike(), NONE);
    }

    /** The kings come to be alike by one edict of each day: on the next one, of day 39 never. */
    private static void alikeAtTheEnds() {
        for (int day = 0; day < 40; day++) {
            TwinKings x = Check.kings("1a");
            x.edict(day, 0);
            boolean heard = day < 39 && x.rules(day) != NONE;
            due("19: an edict of day " + day, x.alike(), heard ? day + 1 : NONE);
        }
        TwinKings both = Check.kings("1a");
        both.leap(0);
        both.edict(0, 0);
        due("19: an edict by both leaves them unlike", both.alike(), NONE);
        TwinKings last = Check.kings("1a;1a;1a;1a;1a;1a;1a;1a");
        for (int k = 0; k < 7; k++) {
            last.edict(0, k);
        }
        due("19: alike but for the last of eight", last.alike(), NONE);
        last.edict(0, 7);
        due("19: and in that one, too", last.alike(), 1);
    }

    // ---- promise 20

    /** The well answer of days 1 to 31 is the same number as BAD, so deeds that are well are told by theirs. */
    private static void crossing() {
        EDGES.bad("20: no deeds", Realm::empty, 0, -1, TwinKings::crossing);
        EDGES.bad("20: a fault", Realm::faulty, 0, -1, TwinKings::crossing);
        EDGES.bad("20: three deeds", Realm::few, 0, Realm.FEW_DEEDS - 1, TwinKings::crossing);
        EDGES.bad("20: eight deeds", Realm::full, 0, 7, TwinKings::crossing);
        TwinKings eight = Check.kings(Realm.EIGHT);
        due("20: the first of eight", eight.crossing(0), 1 << 12 | 1 << 13 | 1 << 26 | 1 << 27);
        due("20: the last of eight", eight.crossing(7), 1 << 5 | 1 << 6 | 1 << 19 | 1 << 20);
        due("20: all days but the first", Realm.few().crossing(1), -2);
        due("20: all days", Realm.open().crossing(0), -1);
        due("20: all days, the last deed", Realm.open().crossing(1), -1);
        due("20: no days", Realm.closed().crossing(0), 0);
    }

    /** Deed 0 is allowed on even days and on Sundays 13 and 27; the sick one makes an odd day free. */
    private static void crossingAtTheEnds() {
        int always = 1 << 12 | 1 << 13 | 1 << 26 | 1 << 27;
        int[] days = {1, 29, 31, 33, 39};
        int[] more = {1 << 0 | 1 << 1, 1 << 28 | 1 << 29, 1 << 30 | 1 << 31, 0, 0};
        due("20: without", Check.kings("1a").crossing(0), always);
        for (int k = 0; k < days.length; k++) {
            TwinKings x = Check.kings("1a");
            x.sick(1, days[k]);
            due("20: day " + days[k] + " is free", x.crossing(0), always | more[k]);
        }
        TwinKings cut = Realm.open();
        cut.edict(31, 0);
        due("20: day 31 and not 32 to 39 of the elder's", cut.crossing(0), -1);
        TwinKings closed = Realm.open();
        closed.edict(30, 0);
        due("20: from day 32 on the elder forbids it: day 31 is none", closed.crossing(0), Integer.MAX_VALUE);
        due("20: of the other deed nothing is changed", closed.crossing(1), -1);
    }

    // ---- promises 21 and 22

    private static void fined() {
        EDGES.bad("21: none was done", Realm::empty, 0, -1, TwinKings::fined);
        EDGES.well("21: one was done", Realm::few, 0, 0, TwinKings::fined);
        EDGES.bad("21: one was done", Realm::few, 0, 0, TwinKings::fined);
        EDGES.well("21: twelve were done", Realm::full, 0, 11, TwinKings::fined);
        EDGES.bad("21: twelve were done", Realm::full, 0, 11, TwinKings::fined);
        TwinKings x = Realm.few();
        x.back(3);
        due("21: the one is undone", x.fined(0), BAD);
    }

    /** Deed 0 costs 9 and is forbidden on odd days, but 13 and 27. */
    private static void finedByCourt() {
        int[][] rows = {{0, 1}, {1, 1}, {0, 2}, {1, 2}, {35, 5}, {39, 1}, {13, 1}, {12, 5}};
        int[][] due = {{0, 9, 0, 9, 9, 9, 0, 0}, {0, 9, 9, 9, 27, 9, 0, 9}, {0, 9, 9, 0, 9, 9, 0, 0}};
        for (int court = 0; court <= 2; court++) {
            TwinKings x = Check.kings("9a;0a");
            x.set(1, court);
            for (int k = 0; k < rows.length; k++) {
                x.does(rows[k][0], 0, rows[k][1]);
                due("21: court " + court + ", row " + k, x.fined(k), due[court][k]);
            }
            x.does(1, 1, 5);
            due("21: court " + court + ", a fine of 0", x.fined(rows.length), 0);
        }
    }

    private static void finedOfNoDeed() {
        TwinKings x = Check.kings("9f;4f");
        x.set(0, 2);
        x.set(1, 1);
        for (int deed = 0; deed <= 7; deed++) {
            x.does(0, deed, 5);
        }
        due("21: of the first deed", x.fined(0), 45);
        due("21: of the last deed that there is", x.fined(1), 20);
        for (int deed = 2; deed <= 7; deed++) {
            due("21: of deed " + deed + " that there is not", x.fined(deed), 0);
        }
        due("22: of those that there are not no coins", x.coins(0) + x.coins(1), 65);
        x.type(';');
        due("21: with a fault there are none", x.fined(0), 0);
        due("22: with a fault no coins", x.coins(0) + x.coins(1), 0);
    }

    private static void coins() {
        EDGES.takes("22: king", 0, 1, TwinKings::coins);
        TwinKings none = Check.kings("9f");
        due("22: nothing was done", none.coins(0) + none.coins(1), 0);
        TwinKings most = Realm.closed();
        most.set(1, 1);
        for (int k = 0; k < 12; k++) {
            most.does(35, 0, 5);
        }
        due("22: twelve of five days, the elder's two", most.coins(0), 12 * 2 * 9);
        due("22: twelve of five days, the younger's three", most.coins(1), 12 * 3 * 9);
    }

    private static void coinsByWhoRules() {
        TwinKings x = Realm.closed();
        x.does(0, 0, 1);
        due("22: the elder rules alone", 100 * x.coins(0) + x.coins(1), 900);
        x.sick(0, 0);
        due("22: the younger rules alone for him", 100 * x.coins(0) + x.coins(1), 9);
        x.sick(1, 0);
        due("22: neither rules: nothing is forbidden", 100 * x.coins(0) + x.coins(1), 0);
        x.leap(0);
        due("22: both rule: in the elder's", 100 * x.coins(0) + x.coins(1), 900);
        TwinKings sunday = Realm.closed();
        sunday.does(6, 0, 1);
        due("22: a Sunday", 100 * sunday.coins(0) + sunday.coins(1), 0);
        sunday.leap(6);
        due("22: a Sunday that is a leap", 100 * sunday.coins(0) + sunday.coins(1), 900);
    }
}
