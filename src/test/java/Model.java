import java.math.BigInteger;
import java.util.ArrayList;
import java.util.Arrays;
import java.util.List;

/**
 * The document told once more, by other means and without a thought of speed: everything is found from what was
 * told, by trying all there is. It knows no refusals of its own for what a caller should not ask: those that the
 * document tells are here, and so it answers every call of the face.
 */
final class Model {
    static final int NONE = -1, BAD = -2, NOT = -3, FULL = -4;

    private String text = "";
    private String splitText = "";
    private String[] split = {};
    private int rule;
    private int court;
    private int finding;
    private final List<int[]> sick = new ArrayList<>();
    private final List<int[]> leaps = new ArrayList<>();
    private final List<int[]> edicts = new ArrayList<>();
    private final List<int[]> done = new ArrayList<>();
    private final List<int[]> tasks = new ArrayList<>();
    private final List<int[]> seen = new ArrayList<>();
    private final List<int[]> book = new ArrayList<>();
    private final int[] forms = new int[4];
    private final long[][] sheets = new long[4][];

    private static boolean out(int v, int least, int most) {
        return v < least || v > most;
    }

    private static int addTo(List<int[]> rows, int most, int... row) {
        if (rows.size() == most) {
            return FULL;
        }
        rows.add(row);
        return rows.size();
    }

    // ---- deeds, days

    int type(int b) {
        if (out(b, 0, 255)) {
            return BAD;
        }
        if (text.length() == 23) {
            return FULL;
        }
        text += (char) b;
        return text.length();
    }

    int wipe() {
        int had = text.length();
        text = "";
        return had;
    }

    int undo() {
        if (text.isEmpty()) {
            return NOT;
        }
        text = text.substring(0, text.length() - 1);
        return text.length();
    }

    private static boolean isWell(String t) {
        return t.isEmpty() || t.matches("[0-9][af](;[0-9][af]){0,7}");
    }

    private static boolean canGoOn(String t) {
        String[] ends = {"", "a", "0a"};
        return Arrays.stream(ends).anyMatch(end -> isWell(t + end));
    }

    int fault() {
        for (int k = 1; k <= text.length(); k++) {
            if (!canGoOn(text.substring(0, k))) {
                return k - 1;
            }
        }
        return isWell(text) ? NONE : text.length();
    }

    private String[] deeds() {
        if (!text.equals(splitText)) {
            splitText = text;
            split = text.isEmpty() || fault() != NONE ? new String[0] : text.split(";");
        }
        return split;
    }

    private int fine(int deed) {
        return deeds()[deed].charAt(0) - '0';
    }

    private boolean saysAtFirst(int king, int deed) {
        String[] deeds = deeds();
        boolean elder = deeds[deed].charAt(1) == 'a';
        if (king == 0) {
            return elder;
        }
        int other = deed % 2 == 0 ? deed + 1 : deed - 1;
        if (rule == 1 && other < deeds.length) {
            return deeds[other].charAt(1) == 'a';
        }
        return rule == 2 ? deeds[(deed + 1) % deeds.length].charAt(1) == 'a' : !elder;
    }

    int deed(int deed, int what) {
        if (out(deed, 0, deeds().length - 1) || out(what, 0, 2)) {
            return BAD;
        }
        if (what == 0) {
            return fine(deed);
        }
        return saysAtFirst(what - 1, deed) ? 1 : 0;
    }

    int set(int what, int v) {
        if (out(what, 0, 1) || out(v, 0, 2)) {
            return BAD;
        }
        int was = what == 0 ? rule : court;
        if (what == 0) {
            rule = v;
        } else {
            court = v;
        }
        return was;
    }

    int sick(int king, int day) {
        return out(king, 0, 1) || out(day, 0, 39) ? BAD : addTo(sick, 8, king, day);
    }

    int leap(int day) {
        return out(day, 0, 39) ? BAD : addTo(leaps, 4, day);
    }

    int edict(int day, int deed) {
        return out(day, 0, 39) || out(deed, 0, 7) ? BAD : addTo(edicts, 10, day, deed);
    }

    int does(int day, int deed, int days) {
        boolean bad = out(day, 0, 39) || out(deed, 0, 7) || out(days, 1, 5) || day + days > 40;
        return bad ? BAD : addTo(done, 12, day, deed, days);
    }

    int task(int deed, int days) {
        return out(deed, 0, 7) || out(days, 1, 5) ? BAD : addTo(tasks, 6, deed, days);
    }

    int back(int what) {
        if (out(what, 0, 4)) {
            return BAD;
        }
        List<int[]> rows = List.of(sick, leaps, edicts, done, tasks).get(what);
        if (rows.isEmpty()) {
            return NOT;
        }
        rows.remove(rows.size() - 1);
        return rows.size();
    }

    int read(int s) {
        if (out(s, 0, 3)) {
            return BAD;
        }
        if (sheets[s] == null) {
            return find(1);
        }
        int came = 0;
        while (2 * came + 1 < sheets[s].length
                && edict((int) sheets[s][2 * came], (int) sheets[s][2 * came + 1]) > 0) {
            came++;
        }
        return came;
    }

    // ---- laws

    private boolean isSick(int king, int day) {
        for (int[] row : sick) {
            if (row[0] == king && row[1] == day) {
                return true;
            }
        }
        return false;
    }

    private boolean isLeap(int day) {
        for (int[] row : leaps) {
            if (row[0] == day) {
                return true;
            }
        }
        return false;
    }

    /** Who rules, if the kings are sick as said. */
    private int ruler(int day, boolean elderSick, boolean youngerSick) {
        if (isLeap(day)) {
            return 2;
        }
        if (day % 7 == 6 || elderSick && youngerSick) {
            return NONE;
        }
        if (day % 2 == 0) {
            return elderSick ? 1 : 0;
        }
        return youngerSick ? 0 : 1;
    }

    private int ruler(int day) {
        return ruler(day, isSick(0, day), isSick(1, day));
    }

    private boolean says(int king, int day, int deed, List<int[]> given) {
        boolean says = saysAtFirst(king, deed);
        for (int[] edict : given) {
            boolean his = ruler(edict[0]) == king || ruler(edict[0]) == 2;
            if (his && edict[0] < day && edict[1] == deed) {
                says = !says;
            }
        }
        return says;
    }

    private boolean isAllowed(int day, int deed, int ruler, List<int[]> given) {
        boolean elderRules = ruler == 0 || ruler == 2;
        boolean youngerRules = ruler == 1 || ruler == 2;
        return !(elderRules && !says(0, day, deed, given)) && !(youngerRules && !says(1, day, deed, given));
    }

    private boolean isAllowed(int day, int deed) {
        return deed < deeds().length && isAllowed(day, deed, ruler(day), edicts);
    }

    private boolean isAllowedOnAll(int day, int deed, int days) {
        for (int d = day; d < day + days; d++) {
            if (d > 39 || !isAllowed(d, deed)) {
                return false;
            }
        }
        return true;
    }

    int rules(int day) {
        return out(day, 0, 39) ? BAD : ruler(day);
    }

    int allows(int day, int king) {
        if (out(day, 0, 39) || out(king, 0, 1)) {
            return BAD;
        }
        int bits = 0;
        for (int k = 0; k < deeds().length; k++) {
            bits += says(king, day, k, edicts) ? 1 << k : 0;
        }
        return bits;
    }

    int allowed(int day) {
        if (out(day, 0, 39)) {
            return BAD;
        }
        int bits = 0;
        for (int k = 0; k < deeds().length; k++) {
            bits += isAllowed(day, k) ? 1 << k : 0;
        }
        return bits;
    }

    int never() {
        int bits = 0;
        for (int k = 0; k < deeds().length; k++) {
            bits += soonest(k, 1, 0) == NONE ? 1 << k : 0;
        }
        return bits;
    }

    int alike() {
        for (int day = 0; day < 40; day++) {
            if (allows(day, 0) == allows(day, 1)) {
                return day;
            }
        }
        return NONE;
    }

    int crossing(int deed) {
        if (out(deed, 0, deeds().length - 1)) {
            return BAD;
        }
        int bits = 0;
        for (int day = 0; day < 32; day++) {
            bits |= isAllowedOnAll(day, deed, 2) ? 1 << day : 0;
        }
        return bits;
    }

    /** The fines of one row that was done, by days. */
    private int[] finesByDay(int[] row) {
        int[] fines = new int[40];
        for (int d = 0; d < row[2] && row[1] < deeds().length; d++) {
            boolean counts = court == 1 || court == 0 && d == 0 || court == 2 && d == row[2] - 1;
            if (counts && !isAllowed(row[0] + d, row[1])) {
                fines[row[0] + d] = fine(row[1]);
            }
        }
        return fines;
    }

    int fined(int k) {
        return out(k, 0, done.size() - 1) ? BAD : Arrays.stream(finesByDay(done.get(k))).sum();
    }

    int coins(int king) {
        if (out(king, 0, 1)) {
            return BAD;
        }
        int sum = 0;
        for (int[] row : done) {
            int[] fines = finesByDay(row);
            for (int day = 0; day < 40; day++) {
                boolean his = ruler(day) == king || king == 0 && ruler(day) == 2;
                sum += his ? fines[day] : 0;
            }
        }
        return sum;
    }

    // ---- plans

    private int begin(int deed, int days, int from) {
        for (int day = from; day < 40; day++) {
            if (isAllowedOnAll(day, deed, days)) {
                return day;
            }
        }
        return NONE;
    }

    int soonest(int deed, int days, int day) {
        boolean bad = out(deed, 0, deeds().length - 1) || out(days, 1, 9) || out(day, 0, 39);
        return bad ? BAD : begin(deed, days, day);
    }

    int cheapest(int deed, int days, int day, int what) {
        if (out(deed, 0, deeds().length - 1) || out(days, 1, 9) || out(day, 0, 39) || out(what, 0, 1)) {
            return BAD;
        }
        int best = NONE;
        int least = Integer.MAX_VALUE;
        for (int start = day; start <= 40 - days; start++) {
            int sum = 0;
            for (int d = 0; d < days; d++) {
                sum += isAllowed(start + d, deed) ? 0 : fine(deed);
            }
            if (sum < least) {
                least = sum;
                best = start;
            }
        }
        return what == 0 || best == NONE ? best : least;
    }

    /** The days on which tasks begin in this row of them, as far as they do. */
    private List<Integer> begins(int day, List<Integer> row) {
        List<Integer> days = new ArrayList<>();
        int at = day;
        for (int k : row) {
            int start = begin(tasks.get(k)[0], tasks.get(k)[1], at);
            if (start == NONE) {
                break;
            }
            days.add(start);
            at = start + tasks.get(k)[1];
        }
        return days;
    }

    private int end(int day, List<Integer> row) {
        List<Integer> days = begins(day, row);
        if (row.isEmpty() || days.size() < row.size()) {
            return NONE;
        }
        return days.get(days.size() - 1) + tasks.get(row.get(row.size() - 1))[1] - 1;
    }

    private static void fillRows(List<Integer> row, int n, List<List<Integer>> rows) {
        if (row.size() == n) {
            rows.add(new ArrayList<>(row));
        }
        for (int k = 0; k < n; k++) {
            if (!row.contains(k)) {
                row.add(k);
                fillRows(row, n, rows);
                row.remove(row.size() - 1);
            }
        }
    }

    int finish(int day, int i) {
        if (out(day, 0, 39) || out(i, -1, 5)) {
            return BAD;
        }
        List<Integer> row = new ArrayList<>();
        for (int k = 0; k < tasks.size(); k++) {
            row.add(k);
        }
        int end = end(day, row);
        if (i == NONE || end == NONE) {
            return end;
        }
        return i < row.size() ? begins(day, row).get(i) : NONE;
    }

    int plan(int day, int i) {
        if (out(day, 0, 39) || out(i, -1, 5)) {
            return BAD;
        }
        List<List<Integer>> rows = new ArrayList<>();
        fillRows(new ArrayList<>(), tasks.size(), rows);
        int best = NONE;
        List<Integer> bestRow = List.of();
        for (List<Integer> row : rows) {
            int end = end(day, row);
            if (end != NONE && (best == NONE || end < best)) {
                best = end;
                bestRow = row;
            }
        }
        if (i == NONE) {
            return best;
        }
        return i < bestRow.size() ? bestRow.get(i) : NONE;
    }

    private int openAfter(int day, int last, List<int[]> given) {
        if (day == last) {
            int open = 0;
            for (int k = 0; k < deeds().length; k++) {
                open += isAllowed(last, k, ruler(last), given) ? 1 : 0;
            }
            return open;
        }
        if (ruler(day) != 0 && ruler(day) != 1) {
            return openAfter(day + 1, last, given);
        }
        int[] results = openByWord(day, last, given);
        return ruler(day) == 0 ? Arrays.stream(results).max().getAsInt() : Arrays.stream(results).min().getAsInt();
    }

    /** What comes of each word of the one that rules on that day; of none, in the last place. */
    private int[] openByWord(int day, int last, List<int[]> given) {
        int n = deeds().length;
        int[] results = new int[n + 1];
        results[n] = openAfter(day + 1, last, given);
        for (int k = 0; k < n; k++) {
            List<int[]> more = new ArrayList<>(given);
            more.add(new int[] {day, k});
            results[k] = openAfter(day + 1, last, more);
        }
        return results;
    }

    int words(int day, int n, int what) {
        if (out(day, 0, 38) || out(n, 1, 3) || day + n - 1 > 38 || out(what, 0, 1)) {
            return BAD;
        }
        int value = openAfter(day, day + n, edicts);
        if (what == 0) {
            return value;
        }
        if (ruler(day) != 0 && ruler(day) != 1) {
            return NONE;
        }
        int[] results = openByWord(day, day + n, edicts);
        for (int k = 0; k < results.length - 1; k++) {
            if (results[k] == value) {
                return k;
            }
        }
        return 8;
    }

    // ---- seen, the book, chance

    int seen(int deed, int is) {
        return out(deed, 0, 7) || out(is, 0, 1) ? BAD : addTo(seen, 8, deed, is);
    }

    int book(int day, int deed, int is) {
        boolean bad = out(day, 0, 39) || out(deed, 0, 7) || out(is, 0, 1);
        return bad ? BAD : addTo(book, 8, day, deed, is);
    }

    int forget(int what) {
        if (out(what, 0, 1)) {
            return BAD;
        }
        List<int[]> rows = what == 0 ? seen : book;
        int had = rows.size();
        rows.clear();
        return had;
    }

    private List<Integer> daysAsSeen() {
        List<Integer> days = new ArrayList<>();
        for (int day = 0; day < 40; day++) {
            boolean fits = true;
            for (int[] row : seen) {
                fits = fits && row[0] < deeds().length && isAllowed(day, row[0]) == (row[1] == 1);
            }
            if (fits) {
                days.add(day);
            }
        }
        return days;
    }

    int when(int i) {
        if (out(i, -1, 39)) {
            return BAD;
        }
        List<Integer> days = daysAsSeen();
        if (i == NONE) {
            return days.size();
        }
        return i < days.size() ? days.get(i) : NONE;
    }

    int ask() {
        List<Integer> days = daysAsSeen();
        int best = NONE;
        int least = 41;
        for (int k = 0; k < deeds().length; k++) {
            int open = 0;
            int closed = 0;
            for (int day : days) {
                if (isAllowed(day, k)) {
                    open++;
                } else {
                    closed++;
                }
            }
            if (Math.max(open, closed) < least) {
                least = Math.max(open, closed);
                best = k;
            }
        }
        return best;
    }

    int forged() {
        int bits = 0;
        for (int e = 0; e < edicts.size(); e++) {
            List<int[]> given = new ArrayList<>(edicts);
            given.remove(e);
            boolean fits = true;
            for (int[] row : book) {
                fits = fits && row[1] < deeds().length
                        && isAllowed(row[0], row[1], ruler(row[0]), given) == (row[2] == 1);
            }
            bits += fits ? 1 << e : 0;
        }
        return bits;
    }

    /** Sixteenths to the power 2 * days of the ways on in which the deed is allowed, each by its weight. */
    private BigInteger weight(int c, int day, int deed, int days) {
        if (days == 0) {
            return BigInteger.ONE;
        }
        BigInteger sum = BigInteger.ZERO;
        for (int ways = 0; ways < 4; ways++) {
            boolean elderSick = ways % 2 == 1;
            boolean youngerSick = ways / 2 == 1;
            int weight = (elderSick ? c : 16 - c) * (youngerSick ? c : 16 - c);
            if (weight != 0 && isAllowed(day, deed, ruler(day, elderSick, youngerSick), edicts)) {
                sum = sum.add(BigInteger.valueOf(weight).multiply(weight(c, day + 1, deed, days - 1)));
            }
        }
        return sum;
    }

    long chance(int c, int day, int deed, int days, int what) {
        if (out(c, 0, 16) || out(day, 0, 39) || out(deed, 0, deeds().length - 1) || out(days, 1, 6)
                || day + days > 40 || out(what, 0, 1)) {
            return Long.MIN_VALUE + 2;
        }
        BigInteger above = weight(c, day, deed, days);
        BigInteger below = BigInteger.valueOf(16).pow(2 * days);
        BigInteger shared = above.gcd(below);
        return (what == 0 ? above : below).divide(shared).longValueExact();
    }

    int year(int seed, int n, int what) {
        if (out(n, 1, 40) || out(what, 0, 1)) {
            return BAD;
        }
        if (deeds().length == 0) {
            return 0;
        }
        BigInteger lots = BigInteger.valueOf(seed);
        BigInteger room = BigInteger.ONE.shiftLeft(32);
        int many = 0;
        int much = 0;
        for (int day = 0; day < n; day++) {
            lots = lots.multiply(BigInteger.valueOf(1103515245)).add(BigInteger.valueOf(12345)).mod(room);
            int deed = lots.shiftRight(16).intValueExact() % deeds().length;
            if (!isAllowed(day, deed)) {
                many++;
                much += fine(deed);
            }
        }
        return what == 0 ? many : much;
    }

    // ---- sheets

    private int find(int number) {
        finding = number;
        return -10 - number;
    }

    int sheet(int s, int form, int n) {
        if (out(s, 0, 3) || out(form, 0, 2) || n > 60) {
            return BAD;
        }
        if (n < 0) {
            return find(5);
        }
        forms[s] = form;
        sheets[s] = new long[n];
        return n;
    }

    int lose(int s) {
        if (out(s, 0, 3)) {
            return BAD;
        }
        if (sheets[s] == null) {
            return find(1);
        }
        int had = sheets[s].length;
        sheets[s] = null;
        return had;
    }

    /** A number of so many bits, as one with a sign. */
    private static long cut(int form, int v) {
        long size = 1L << (8 << form);
        long low = Math.floorMod((long) v, size);
        return low >= size / 2 ? low - size : low;
    }

    private int itemFinding(int s, int form, int i) {
        if (sheets[s] == null) {
            return 1;
        }
        if (forms[s] != form) {
            return 3;
        }
        return out(i, 0, sheets[s].length - 1) ? 2 : 0;
    }

    int put(int s, int form, int i, int v) {
        if (out(s, 0, 3) || out(form, 0, 2)) {
            return BAD;
        }
        int number = itemFinding(s, form, i);
        if (number > 0) {
            return find(number);
        }
        sheets[s][i] = cut(form, v);
        return 1;
    }

    int get(int s, int form, int i) {
        if (out(s, 0, 3) || out(form, 0, 2)) {
            return Integer.MIN_VALUE;
        }
        int number = itemFinding(s, form, i);
        if (number > 0) {
            find(number);
            return Integer.MIN_VALUE;
        }
        return (int) sheets[s][i];
    }

    int copy(int s, int i, int t, int j, int n) {
        if (out(s, 0, 3) || out(t, 0, 3)) {
            return BAD;
        }
        if (sheets[s] == null || sheets[t] == null) {
            return find(1);
        }
        if (forms[s] != forms[t]) {
            return find(4);
        }
        boolean out = i < 0 || j < 0 || n < 0;
        if (out || (long) i + n > sheets[s].length || (long) j + n > sheets[t].length) {
            return find(2);
        }
        long[] items = Arrays.copyOfRange(sheets[s], i, i + n);
        for (int k = 0; k < n; k++) {
            sheets[t][j + k] = items[k];
        }
        return 1;
    }

    int write(int s) {
        if (out(s, 0, 3)) {
            return BAD;
        }
        if (sheets[s] == null) {
            return find(1);
        }
        int day = 0;
        while (day < 40 && day < sheets[s].length) {
            sheets[s][day] = cut(forms[s], allowed(day));
            day++;
        }
        return day;
    }

    int count(int what) {
        int[] counts = {deeds().length, text.length(), sick.size(), leaps.size(), edicts.size(), done.size(),
            tasks.size(), seen.size() + book.size(), finding};
        return out(what, 0, 8) ? BAD : counts[what];
    }

    long digest() {
        List<Long> parts = new ArrayList<>();
        for (int what = 0; what < 8; what++) {
            parts.add((long) count(what));
        }
        parts.add((long) fault());
        for (int k = 0; k < deeds().length; k++) {
            int[] ints = {deed(k, 0), deed(k, 1), deed(k, 2), crossing(k), soonest(k, 3, 5), cheapest(k, 4, 2, 0),
                cheapest(k, 4, 2, 1)};
            addAll(parts, ints);
            parts.add(chance(5, 3, k, 4, 0));
            parts.add(chance(5, 3, k, 4, 1));
        }
        for (int day : new int[] {0, 1, 6, 20, 39}) {
            addAll(parts, rules(day), allows(day, 0), allows(day, 1), allowed(day));
        }
        addAll(parts, never(), alike());
        for (int k = 0; k < done.size(); k++) {
            addAll(parts, fined(k));
        }
        addAll(parts, coins(0), coins(1), finish(2, NONE), finish(2, 0), plan(2, NONE), plan(2, 0));
        addAll(parts, words(4, 2, 0), words(4, 2, 1), when(NONE), when(0), ask(), forged());
        addAll(parts, year(7, 30, 0), year(7, 30, 1));
        long h = 17;
        for (long part : parts) {
            h = 31 * h + part;
        }
        return h;
    }

    private static void addAll(List<Long> parts, int... ints) {
        for (int v : ints) {
            parts.add((long) v);
        }
    }
}
