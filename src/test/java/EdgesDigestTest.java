import java.math.BigInteger;
import java.util.function.Supplier;
import java.util.function.ToLongFunction;

/** Promise 43 at its edges, that asking changes nothing, and an object's last calls. */
public final class EdgesDigestTest {
    private static final int NONE = -1, CALLS = 512;
    private static final Edges EDGES = new Edges();

    public static void main(String[] args) {
        digestOfNothing();
        digestOfOneDeed();
        digestKeeps();
        askingKeeps("empty", Realm::empty);
        askingKeeps("few", Realm::few);
        askingKeeps("full", Realm::full);
        askingKeeps("with a fault", Realm::faulty);
        lastCalls();
        EDGES.end("EdgesDigestTest");
    }

    /** By whole numbers of any size, of which 64 bits are kept at the end alone. */
    private static long digestOf(long... parts) {
        BigInteger h = BigInteger.valueOf(17);
        for (long part : parts) {
            h = h.multiply(BigInteger.valueOf(31)).add(BigInteger.valueOf(part));
        }
        return h.longValue();
    }

    private static void digestOfNothing() {
        long want = digestOf(
                0, 0, 0, 0, 0, 0, 0, 0, NONE,
                0, 0, 0, 0, 1, 0, 0, 0, NONE, 0, 0, 0, NONE, 0, 0, 0, 1, 0, 0, 0,
                0, 0, 0, 0, NONE, NONE, NONE, NONE, 0, 8, 40, 0, NONE, 0, 0, 0);
        EDGES.keeps("43: a new object", Realm::empty, TwinKings::digest, want);
        TwinKings fault = Check.kings("1");
        EDGES.due("43: a text that is not ended", fault.digest(), digestOf(
                0, 1, 0, 0, 0, 0, 0, 0, 1,
                0, 0, 0, 0, 1, 0, 0, 0, NONE, 0, 0, 0, NONE, 0, 0, 0, 1, 0, 0, 0,
                0, 0, 0, 0, NONE, NONE, NONE, NONE, 0, 8, 40, 0, NONE, 0, 0, 0));
    }

    /**
     * One deed that both kings forbid, and one that was done of it on day 0. Days 3 to 6 by chance: thrice
     * 25 of 256 and a Sunday. Four days from day 2 on: three of them fined from day 3 on. Of 30 days four are Sundays.
     */
    private static void digestOfOneDeed() {
        TwinKings x = Check.kings("5f");
        x.set(0, 2);
        x.does(0, 0, 1);
        EDGES.due("43: one deed", x.digest(), digestOf(
                1, 2, 0, 0, 0, 1, 0, 0, NONE,
                5, 0, 0, 0, NONE, 3, 15, 25 * 25 * 25, 256 * 256 * 256,
                0, 0, 0, 0, 1, 0, 0, 0, NONE, 0, 0, 1, NONE, 0, 0, 1, 1, 0, 0, 0,
                0, 0, 5, 5, 0, NONE, NONE, NONE, NONE, 1, 0, 40, 0, 0, 0, 26, 130));
    }

    private static void digestKeeps() {
        EDGES.keeps("43: few", Realm::few, TwinKings::digest, Realm.few().digest());
        EDGES.keeps("43: full", Realm::full, TwinKings::digest, Realm.full().digest());
        EDGES.keeps("43: with a fault", Realm::faulty, TwinKings::digest, Realm.faulty().digest());
        TwinKings x = Realm.full();
        long before = x.digest();
        x.sheet(3, 2, 60);
        x.lose(0);
        EDGES.due("43: sheets are no part of it", x.digest(), before);
    }

    private static void keeps(String call, Supplier<TwinKings> made, ToLongFunction<TwinKings> act) {
        EDGES.keeps(call, made, act, act.applyAsLong(made.get()));
    }

    /** Each call that only asks leaves all as it was. */
    private static void askingKeeps(String what, Supplier<TwinKings> made) {
        keeps("5: fault, " + what, made, TwinKings::fault);
        keeps("6: deed, " + what, made, x -> x.deed(0, 2));
        keeps("15: rules, " + what, made, x -> x.rules(39));
        keeps("16: allows, " + what, made, x -> x.allows(39, 1));
        keeps("17: allowed, " + what, made, x -> x.allowed(39));
        keeps("18: never, " + what, made, TwinKings::never);
        keeps("19: alike, " + what, made, TwinKings::alike);
        keeps("20: crossing, " + what, made, x -> x.crossing(0));
        keeps("21: fined, " + what, made, x -> x.fined(0));
        keeps("22: coins, " + what, made, x -> x.coins(0));
        keeps("23: soonest, " + what, made, x -> x.soonest(0, 9, 0));
        keeps("24: cheapest, " + what, made, x -> x.cheapest(0, 9, 0, 1));
        keeps("25: finish, " + what, made, x -> x.finish(39, 5));
        keeps("26: plan, " + what, made, x -> x.plan(39, 5));
        keeps("27: words, " + what, made, x -> x.words(36, 3, 1));
        keeps("31: when, " + what, made, x -> x.when(39));
        keeps("32: ask, " + what, made, TwinKings::ask);
        keeps("33: forged, " + what, made, TwinKings::forged);
        keeps("34: chance, " + what, made, x -> x.chance(15, 34, 0, 6, 1));
        keeps("35: year, " + what, made, x -> x.year(Integer.MIN_VALUE, 40, 1));
        keeps("42: count, " + what, made, x -> x.count(7));
    }

    /** An object is used for 512 calls: the last of them answers as the first does. */
    private static void lastCalls() {
        TwinKings x = new TwinKings();
        int calls = 0;
        for (; calls < CALLS - 4; calls++) {
            x.leap(calls % 2 == 0 ? 39 : 40);
        }
        EDGES.due("the last calls: count", x.count(3), 4);
        EDGES.due("the last calls: FULL", x.leap(0), -4);
        EDGES.due("the last calls: back", x.back(1), 3);
        EDGES.due("call 512: leap", x.leap(0), 4);
    }
}
