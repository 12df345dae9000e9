/** Promise 43: the digest is of all its parts, in their order, and changes nothing. */
public final class DigestTest {
    private static final int NONE = -1;
    private static final Check CHECK = new Check();
    private static long h;

    public static void main(String[] args) {
        digestIs("no deeds", new TwinKings());
        digestIs("a fault", Check.kings("1a;2"));
        TwinKings x = Check.kings("3a;5f;0a;9f;2a;7f;1a;4f");
        digestIs("eight deeds", x);
        fill(x);
        digestIs("all is told", x);
        x.set(0, 2);
        x.set(1, 1);
        digestIs("another rule and court", x);
        digestIs("days 2 to 5 alone are free", fourFreeDays());
        digestIs("tasks without a finish", noFinish());
        digestIs("days 1 to 4 alone are free", daysOneToFour());
        digestIs("a word that counts", wordThatCounts());
        digestIs("a few of all", Realm.few());
        digestIs("as much of all as there may be", Realm.full());
        digestIs("full, with a fault", Realm.faulty());
        x.lose(0);
        long before = x.digest();
        x.sheet(0, 0, -1);
        CHECK.due("43: findings are no part of it", x.digest(), before);
        CHECK.due("43: it is no finding", x.count(8), 5);
        CHECK.end("DigestTest");
    }

    private static void fill(TwinKings x) {
        x.sick(0, 2);
        x.sick(1, 9);
        x.leap(20);
        x.edict(0, 1);
        x.edict(20, 0);
        x.edict(5, 6);
        x.does(1, 0, 5);
        x.does(20, 3, 2);
        x.does(39, 5, 1);
        x.task(0, 2);
        x.task(1, 1);
        x.task(4, 3);
        x.seen(1, 1);
        x.book(4, 1, 1);
    }

    /** Here most of what is asked from day 2 on would be told otherwise from day 1 or 3 on. */
    private static TwinKings fourFreeDays() {
        TwinKings x = Check.kings("3a;2f");
        x.sick(1, 3);
        x.sick(1, 5);
        x.leap(6);
        x.task(0, 4);
        x.task(1, 1);
        return x;
    }

    /** Four days from day 1 on are free of fines, and no other four; from day 5 on two come sooner than three. */
    private static TwinKings daysOneToFour() {
        TwinKings x = Check.kings("3a;2f");
        x.sick(0, 2);
        x.sick(0, 4);
        x.sick(1, 5);
        x.task(1, 1);
        return x;
    }

    /** Both rule behind days 4 and 5, so what the elder says on day 4 counts there, but not on day 7. */
    private static TwinKings wordThatCounts() {
        TwinKings x = Check.kings("1a;1a;1f;1a");
        x.set(0, 1);
        x.leap(6);
        x.sick(0, 2);
        x.task(0, 1);
        CHECK.due("43: words(4, 2, 1)", x.words(4, 2, 1), 2);
        CHECK.due("43: words(4, 3, 1)", x.words(4, 3, 1), 0);
        return x;
    }

    private static TwinKings noFinish() {
        TwinKings x = Check.kings("3a");
        x.task(0, 1);
        x.task(1, 1);
        CHECK.due("43: finish(2, 0) as promise 25 says", x.finish(2, 0), NONE);
        return x;
    }

    private static void take(long... parts) {
        for (long part : parts) {
            h = h * 31 + part;
        }
    }

    private static void digestIs(String what, TwinKings x) {
        h = 17;
        for (int k = 0; k < 8; k++) {
            take(x.count(k));
        }
        take(x.fault());
        for (int k = 0; k < x.count(0); k++) {
            take(x.deed(k, 0), x.deed(k, 1), x.deed(k, 2), x.crossing(k), x.soonest(k, 3, 5));
            take(x.cheapest(k, 4, 2, 0), x.cheapest(k, 4, 2, 1));
            take(x.chance(5, 3, k, 4, 0), x.chance(5, 3, k, 4, 1));
        }
        int[] days = {0, 1, 6, 20, 39};
        for (int day : days) {
            take(x.rules(day), x.allows(day, 0), x.allows(day, 1), x.allowed(day));
        }
        take(x.never(), x.alike());
        for (int k = 0; k < x.count(5); k++) {
            take(x.fined(k));
        }
        take(x.coins(0), x.coins(1), x.finish(2, NONE), x.finish(2, 0), x.plan(2, NONE), x.plan(2, 0));
        take(x.words(4, 2, 0), x.words(4, 2, 1), x.when(NONE), x.when(0), x.ask(), x.forged());
        take(x.year(7, 30, 0), x.year(7, 30, 1));
        CHECK.due("43: " + what, x.digest(), h);
        CHECK.due("43: " + what + ", again", x.digest(), h);
    }
}
