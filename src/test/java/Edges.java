import java.util.List;
import java.util.function.Supplier;
import java.util.function.ToLongFunction;

/** Holds calls at the edges of what they take: the last that is well, the first that is not, what that one changes. */
final class Edges {
    static final int NONE = -1, BAD = -2, NOT = -3, FULL = -4;
    static final int NULL = -11, INDEX = -12, CAST = -13, STORE = -14, SIZE = -15;
    static final int LEAST = Integer.MIN_VALUE;

    /** A call of whose numbers one is left open, the others being well. */
    interface Asked {
        long with(TwinKings x, int v);
    }

    private final Check check;
    private final long bad;

    private Edges(Check check, long bad) {
        this.check = check;
        this.bad = bad;
    }

    Edges() {
        this(new Check(), BAD);
    }

    /** The same, for a call whose BAD is told by another number. */
    Edges whoseBadIs(long other) {
        return new Edges(check, other);
    }

    void due(String call, long got, long want) {
        check.due(call, got, want);
    }

    void holds(String what, boolean is) {
        check.holds(what, is);
    }

    void end(String name) {
        check.end(name);
    }

    /** A call that answers as is due, leaves count(8) as it was and changes nothing. */
    void keeps(String call, Supplier<TwinKings> made, ToLongFunction<TwinKings> act, long want) {
        finds(call, made, act, want, made.get().count(8));
    }

    /** A finding: the answer is -10 less its number, count(8) tells it, and nothing else is changed. */
    void finds(String call, Supplier<TwinKings> made, ToLongFunction<TwinKings> act, int want) {
        finds(call, made, act, want, -10 - want);
    }

    void finds(String call, Supplier<TwinKings> made, ToLongFunction<TwinKings> act, long want, int finding) {
        TwinKings touched = made.get();
        due(call, act.applyAsLong(touched), want);
        due(call + ": count(8)", touched.count(8), finding);
        List<String> before = Realm.stateOf(made.get());
        List<String> after = Realm.stateOf(touched);
        holds(call + " changes nothing" + difference(before, after), before.equals(after));
    }

    private static String difference(List<String> before, List<String> after) {
        for (int k = 0; k < Math.min(before.size(), after.size()); k++) {
            if (!before.get(k).equals(after.get(k))) {
                return ", but " + after.get(k) + " (it was: " + before.get(k) + ")";
            }
        }
        return "";
    }

    /** From the least to the most a number is well; next to these and far off it is BAD in every realm. */
    void takes(String call, int least, int most, Asked asked) {
        well(call, Realm::few, least, most, asked);
        bad(call + ", empty", Realm::empty, least, most, asked);
        bad(call + ", few", Realm::few, least, most, asked);
        bad(call + ", full", Realm::full, least, most, asked);
        bad(call + ", with a fault", Realm::faulty, least, most, asked);
    }

    /** A deed that there must be: none in an empty text or with a fault, three in a few, eight in a full one. */
    void takesDeed(String call, Asked asked) {
        well(call + ", few", Realm::few, 0, Realm.FEW_DEEDS - 1, asked);
        bad(call + ", few", Realm::few, 0, Realm.FEW_DEEDS - 1, asked);
        well(call + ", full", Realm::full, 0, 7, asked);
        bad(call + ", full", Realm::full, 0, 7, asked);
        bad(call + ", empty", Realm::empty, 0, -1, asked);
        bad(call + ", with a fault", Realm::faulty, 0, -1, asked);
    }

    void well(String call, Supplier<TwinKings> made, int least, int most, Asked asked) {
        for (int v = least; v <= most; v++) {
            holds(call + ", " + v + " is well", asked.with(made.get(), v) != bad);
        }
    }

    void bad(String call, Supplier<TwinKings> made, int least, int most, Asked asked) {
        int[] wrong = {Integer.MIN_VALUE, least - 1, most + 1, Integer.MAX_VALUE};
        for (int v : wrong) {
            keeps(call + ", " + v, made, x -> asked.with(x, v), bad);
        }
    }

    /** The k-th row that is added answers k, up to the most; one more is FULL and changes nothing. */
    void fills(String call, int most, ToLongFunction<TwinKings> add) {
        TwinKings x = new TwinKings();
        for (int k = 1; k <= most; k++) {
            due(call + ", row " + k, add.applyAsLong(x), k);
        }
        due(call + " once more", add.applyAsLong(x), FULL);
        due(call + " and again", add.applyAsLong(x), FULL);
        keeps(call + " in a full realm", Realm::full, add, FULL);
        keeps(call + " in a full realm with a fault", Realm::faulty, add, FULL);
    }

    /** With a row undone there is room for just one more. */
    void fillsAgain(String call, int most, int what, ToLongFunction<TwinKings> add) {
        TwinKings x = Realm.full();
        due(call + ", back(" + what + ")", x.back(what), most - 1);
        due(call + " into the room", add.applyAsLong(x), most);
        due(call + ", full again", add.applyAsLong(x), FULL);
    }
}
