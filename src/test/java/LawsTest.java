/** Promises 15 to 22: who rules, what is allowed, what is fined. */
public final class LawsTest {
    private static final int NONE = -1, BAD = -2;
    private static final Check CHECK = new Check();

    public static void main(String[] args) {
        rules();
        allows();
        edictsByWhoRules();
        allowed();
        never();
        alike();
        crossing();
        fined();
        coins();
        wrongInputs();
        CHECK.end("LawsTest");
    }

    private static void due(String call, long got, long want) {
        CHECK.due(call, got, want);
    }

    private static void rules() {
        TwinKings x = new TwinKings();
        for (int day = 0; day < 40; day++) {
            due("15: day " + day, x.rules(day), day % 7 == 6 ? NONE : day % 2);
        }
        x.sick(0, 1);
        due("15: the other one is sick", x.rules(1), 1);
        x.sick(1, 1);
        due("15: both are sick", x.rules(1), NONE);
        x.sick(0, 2);
        due("15: the elder is sick", x.rules(2), 1);
        x.sick(1, 3);
        due("15: the younger is sick", x.rules(3), 0);
        x.sick(0, 6);
        due("15: sick on a Sunday", x.rules(6), NONE);
        x.leap(1);
        due("15: a leap, both sick", x.rules(1), 2);
        x.leap(6);
        due("15: a leap on a Sunday", x.rules(6), 2);
        due("15: the others as they were", x.rules(8), 0);
    }

    private static void allows() {
        TwinKings x = Check.kings("1a;2f;3a");
        due("16: the elder at first", x.allows(0, 0), 5);
        due("16: the younger at first", x.allows(0, 1), 2);
        due("16: the elder at last", x.allows(39, 0), 5);
        x.edict(2, 1);
        due("16: not on its own day", x.allows(2, 0), 5);
        due("16: from the next day on", x.allows(3, 0), 7);
        due("16: up to the last", x.allows(39, 0), 7);
        due("16: not the one that does not rule", x.allows(39, 1), 2);
        x.edict(4, 1);
        due("16: back again", x.allows(5, 0), 5);
        x.edict(39, 0);
        due("16: an edict of the last day comes too late", x.allows(39, 1), 2);
        x.edict(0, 3);
        due("16: of a deed that there is not", x.allows(1, 0), 5);
        x.type(';');
        x.type('4');
        x.type('f');
        due("16: of one that has come by now", x.allows(1, 0), 13);
    }

    private static void edictsByWhoRules() {
        TwinKings x = Check.kings("1a");
        x.edict(6, 0);
        due("16: nobody rules on a Sunday", x.allows(7, 0) * 2 + x.allows(7, 1), 2);
        x.leap(6);
        due("16: both rule on a leap", x.allows(7, 0) * 2 + x.allows(7, 1), 1);
        x.back(1);
        x.edict(8, 0);
        x.sick(0, 8);
        due("16: by the one that rules for the sick one", x.allows(9, 0) * 2 + x.allows(9, 1), 3);
        x.sick(1, 8);
        due("16: by nobody, if both are sick", x.allows(9, 0) * 2 + x.allows(9, 1), 2);
        x.back(2);
        x.back(2);
        x.edict(3, 0);
        x.edict(1, 0);
        due("16: edicts may be told in any order", x.allows(2, 1), 1);
        due("16: edicts may be told in any order", x.allows(4, 1), 0);
    }

    private static void allowed() {
        TwinKings x = Check.kings("1a;1f;1a");
        x.set(0, 1);
        due("17: the elder's day", x.allowed(0), 5);
        due("17: the younger's day", x.allowed(1), 2);
        due("17: nobody's day", x.allowed(6), 7);
        x.set(0, 2);
        due("17: the younger's day, rule 2", x.allowed(1), 6);
        x.leap(2);
        due("17: both", x.allowed(2), 4);
        x.sick(0, 4);
        x.sick(1, 4);
        due("17: both sick", x.allowed(4), 7);
        x.type('x');
        due("17: with a fault there are none", x.allowed(6), 0);
    }

    private static void never() {
        TwinKings x = Check.kings("1a;1f;1f");
        due("18: Sundays allow all", x.never(), 0);
        int[] sundays = {6, 13, 20, 27, 34};
        for (int k = 0; k < 4; k++) {
            x.leap(sundays[k]);
        }
        due("18: a Sunday is left", x.never(), 0);
        TwinKings none = new TwinKings();
        due("18: no deeds", none.never(), 0);
        // Five Sundays and four leaps: what is allowed on the last Sunday keeps this at 0 for any deeds.
        x.set(0, 1);
        due("18: by rule 1 as well", x.never(), 0);
    }

    private static void alike() {
        TwinKings none = new TwinKings();
        due("19: no deeds", none.alike(), 0);
        TwinKings x = Check.kings("1a;1f");
        due("19: never", x.alike(), NONE);
        x.edict(0, 0);
        x.edict(0, 1);
        due("19: from day 1 on", x.alike(), 1);
        x.back(2);
        due("19: half alike", x.alike(), NONE);
        x.edict(37, 1);
        due("19: the younger turns late", x.alike(), 38);
        x.back(2);
        x.edict(39, 1);
        due("19: too late", x.alike(), NONE);
        TwinKings same = Check.kings("1a;1a");
        same.set(0, 2);
        due("19: at first", same.alike(), 0);
    }

    private static void crossing() {
        // Allowed on even days and Sundays: pairs 12-13, 13-14, 26-27, 27-28 (20, 34 and 6 are even).
        TwinKings x = Check.kings("1a;1f");
        due("20: the elder's", x.crossing(0), 1 << 12 | 1 << 13 | 1 << 26 | 1 << 27);
        due("20: the younger's", x.crossing(1), 1 << 5 | 1 << 6 | 1 << 19 | 1 << 20);
        x.edict(31, 0);
        due("20: day 32 alone is not enough", x.crossing(0), 1 << 12 | 1 << 13 | 1 << 26 | 1 << 27);
        x.edict(29, 0);
        due("20: edicts of the younger", x.crossing(0), 1 << 12 | 1 << 13 | 1 << 26 | 1 << 27 | 1 << 30 | 1 << 31);
        due("20: no such deed", x.crossing(2), BAD);
    }

    private static void fined() {
        // Deed 0 is allowed on even days and on Sundays alone.
        TwinKings x = Check.kings("4a;0f");
        x.does(1, 0, 2);
        x.does(2, 0, 4);
        x.does(5, 0, 3);
        x.does(0, 1, 5);
        x.does(1, 2, 5);
        int[][] fines = {{4, 0, 4, 0, 0}, {4, 8, 8, 0, 0}, {0, 4, 4, 0, 0}};
        for (int court = 0; court <= 2; court++) {
            x.set(1, court);
            for (int done = 0; done < 5; done++) {
                due("21: court " + court + " of " + done, x.fined(done), fines[court][done]);
            }
        }
        due("21: no such", x.fined(5), BAD);
        due("21: below", x.fined(-1), BAD);
        x.type('x');
        due("21: with a fault there is no deed", x.fined(0), 0);
    }

    private static void coins() {
        TwinKings x = Check.kings("4a;3f");
        x.does(1, 0, 5);
        x.does(0, 1, 5);
        due("22: court 0, elder", x.coins(0), 3);
        due("22: court 0, younger", x.coins(1), 4);
        x.set(1, 1);
        due("22: court 1, elder", x.coins(0), 9);
        due("22: court 1, younger", x.coins(1), 12);
        x.set(1, 2);
        due("22: court 2, elder", x.coins(0), 3);
        due("22: court 2, younger", x.coins(1), 4);
        x.leap(5);
        due("22: on a leap the coin is the elder's", x.coins(0), 7);
        due("22: on a leap the coin is not the younger's", x.coins(1), 0);
        x.sick(0, 4);
        due("22: the younger rules for the sick elder, and allows", x.coins(0), 4);
        TwinKings y = Check.kings("4f");
        y.set(0, 2);
        y.does(0, 0, 1);
        y.sick(0, 0);
        due("22: in the coin of the one that rules", y.coins(1), 4);
        due("22: not in that of the sick one", y.coins(0), 0);
    }

    private static void wrongInputs() {
        TwinKings x = Check.kings("1a");
        int[] wrongDays = {-1, 40, Integer.MIN_VALUE, Integer.MAX_VALUE};
        for (int day : wrongDays) {
            due("15: rules(" + day + ")", x.rules(day), BAD);
            due("16: allows(" + day + ", 0)", x.allows(day, 0), BAD);
            due("17: allowed(" + day + ")", x.allowed(day), BAD);
        }
        int[] wrongKings = {-1, 2, Integer.MIN_VALUE, Integer.MAX_VALUE};
        for (int king : wrongKings) {
            due("16: allows(0, " + king + ")", x.allows(0, king), BAD);
            due("22: coins(" + king + ")", x.coins(king), BAD);
        }
        due("20: below", x.crossing(-1), BAD);
        due("20: no such", x.crossing(1), BAD);
        due("20: above", x.crossing(Integer.MAX_VALUE), BAD);
    }
}
