/**
 * Twin kings who rule by turns, what each of them allows, and what follows from it.
 * The document that this class keeps to is ../shared/DOC.md; its words in capitals are used here in small letters.
 */
public final class TwinKings {
    public static final int NONE = -1, BAD = -2, NOT = -3, FULL = -4;

    private static final int ELDER = 0, YOUNGER = 1, BOTH = 2;
    private static final int DAYS = 40, MOST_DEEDS = 8, NO_WORD = 8, MOST_TASKS = 6;
    private static final int SHEETS = 4, MOST_ITEMS = 60;
    private static final int NULL = 1, INDEX = 2, CAST = 3, STORE = 4, SIZE = 5;
    private static final int LEAST_INT = 1 << 31;
    private static final long LEAST_LONG = 1L << 63, ALL_DAYS = (1L << DAYS) - 1;
    private static final int[] DIGEST_DAYS = {0, 1, 6, 20, 39};

    private final DeedText text = new DeedText();
    private final Rows sickRows = new Rows(8);
    private final Rows leapRows = new Rows(4);
    private final Rows edictRows = new Rows(10);
    private final Rows doneRows = new Rows(12);
    private final Rows taskRows = new Rows(MOST_TASKS);
    private final Rows seenRows = new Rows(8);
    private final Rows bookRows = new Rows(8);
    private final Laws told = new Laws();
    private final Laws supposed = new Laws();
    private final Planner planner = new Planner();
    private final Sheet[] sheets = new Sheet[SHEETS];
    private int rule;
    private int court;
    private int finding;
    // The laws are worked out by the first call that asks for them, not by each call that changes them.
    private boolean stale = true;

    public TwinKings() {
        for (int s = 0; s < SHEETS; s++) {
            sheets[s] = new Sheet();
        }
    }

    // ---- deeds, days

    public int type(int b) {
        if (!within(b, 0, 255)) {
            return BAD;
        }
        return changed(text.append(b));
    }

    public int wipe() {
        return changed(text.clear());
    }

    public int undo() {
        return changed(text.dropLast());
    }

    public int fault() {
        return text.faultPlace();
    }

    public int deed(int deed, int what) {
        if (!text.has(deed)) {
            return BAD;
        }
        switch (what) {
            case 0:
                return text.fineOf(deed);
            case 1:
                return bit(text.elderBits(), deed);
            case 2:
                return bit(text.youngerBits(rule), deed);
            default:
                return BAD;
        }
    }

    public int set(int what, int v) {
        if (!within(what, 0, 1) || !within(v, 0, 2)) {
            return BAD;
        }
        int was;
        if (what == 0) {
            was = rule;
            rule = v;
        } else {
            was = court;
            court = v;
        }
        return changed(was);
    }

    public int sick(int king, int day) {
        if (!isKing(king) || !isDay(day)) {
            return BAD;
        }
        return changed(sickRows.add(king, day, 0));
    }

    public int leap(int day) {
        if (!isDay(day)) {
            return BAD;
        }
        return changed(leapRows.add(day, 0, 0));
    }

    public int edict(int day, int deed) {
        if (!isDay(day) || !mayBeDeed(deed)) {
            return BAD;
        }
        return changed(edictRows.add(day, deed, 0));
    }

    public int does(int day, int deed, int days) {
        if (!isDay(day) || !mayBeDeed(deed) || !within(days, 1, 5) || !isDay(day + days - 1)) {
            return BAD;
        }
        return doneRows.add(day, deed, days);
    }

    public int task(int deed, int days) {
        if (!mayBeDeed(deed) || !within(days, 1, 5)) {
            return BAD;
        }
        return taskRows.add(deed, days, 0);
    }

    public int back(int what) {
        Rows rows = undoable(what);
        if (rows == null) {
            return BAD;
        }
        return changed(rows.dropLast());
    }

    public int read(int s) {
        if (!isSheet(s)) {
            return BAD;
        }
        Sheet from = sheets[s];
        if (from.isLost()) {
            return found(NULL);
        }
        int came = 0;
        for (int i = 0; i + 1 < from.size(); i += 2) {
            if (edict(from.item(i), from.item(i + 1)) < 0) {
                break;
            }
            came++;
        }
        return came;
    }

    // ---- laws

    public int rules(int day) {
        return isDay(day) ? laws().rulerOn(day) : BAD;
    }

    public int allows(int day, int king) {
        if (!isDay(day) || !isKing(king)) {
            return BAD;
        }
        return laws().saidOn(day, king);
    }

    public int allowed(int day) {
        return isDay(day) ? laws().openOn(day) : BAD;
    }

    public int never() {
        Laws laws = laws();
        int closed = laws.everyDeed();
        for (int day = 0; day < DAYS; day++) {
            closed &= ~laws.openOn(day);
        }
        return closed;
    }

    public int alike() {
        Laws laws = laws();
        for (int day = 0; day < DAYS; day++) {
            if (laws.saidOn(day, ELDER) == laws.saidOn(day, YOUNGER)) {
                return day;
            }
        }
        return NONE;
    }

    public int crossing(int deed) {
        // The cast keeps days 0 to 31, which are those that are asked for.
        return text.has(deed) ? (int) laws().startDays(deed, 2) : BAD;
    }

    public int fined(int done) {
        if (!within(done, 0, doneRows.size() - 1)) {
            return BAD;
        }
        Laws laws = laws();
        return finesInCoin(laws, done, ELDER) + finesInCoin(laws, done, YOUNGER);
    }

    public int coins(int king) {
        if (!isKing(king)) {
            return BAD;
        }
        Laws laws = laws();
        int sum = 0;
        for (int done = 0; done < doneRows.size(); done++) {
            sum += finesInCoin(laws, done, king);
        }
        return sum;
    }

    // ---- plans

    public int soonest(int deed, int days, int day) {
        if (!text.has(deed) || !within(days, 1, 9) || !isDay(day)) {
            return BAD;
        }
        return firstDay(laws().startDays(deed, days), day);
    }

    public int cheapest(int deed, int days, int day, int what) {
        if (!text.has(deed) || !within(days, 1, 9) || !isDay(day) || !within(what, 0, 1)) {
            return BAD;
        }
        long open = laws().openDays(deed);
        int bestDay = NONE;
        int least = NONE;
        for (int start = day; start + days <= DAYS; start++) {
            int fines = text.fineOf(deed) * closedDays(open, start, days);
            if (bestDay == NONE || fines < least) {
                bestDay = start;
                least = fines;
            }
        }
        return what == 0 ? bestDay : least;
    }

    public int finish(int day, int i) {
        if (!isDay(day) || !within(i, NONE, MOST_TASKS - 1)) {
            return BAD;
        }
        planner.prepare(taskRows, laws());
        int end = planner.layInTurn(day);
        if (end == NONE || i == NONE) {
            return end;
        }
        return planner.startInTurn(i);
    }

    public int plan(int day, int i) {
        if (!isDay(day) || !within(i, NONE, MOST_TASKS - 1)) {
            return BAD;
        }
        planner.prepare(taskRows, laws());
        int end = planner.findBestRow(day);
        if (end == NONE || i == NONE) {
            return end;
        }
        return planner.taskInBestRow(i);
    }

    public int words(int day, int n, int what) {
        if (!isDay(day) || !within(n, 1, 3) || day + n > DAYS - 1 || !within(what, 0, 1)) {
            return BAD;
        }
        Laws laws = laws();
        return what == 0 ? laws.numberAtBest(day, n) : laws.wordAtBest(day, n);
    }

    // ---- seen, the book, chance

    public int seen(int deed, int is) {
        if (!mayBeDeed(deed) || !within(is, 0, 1)) {
            return BAD;
        }
        return seenRows.add(deed, is, 0);
    }

    public int book(int day, int deed, int is) {
        if (!isDay(day) || !mayBeDeed(deed) || !within(is, 0, 1)) {
            return BAD;
        }
        return bookRows.add(day, deed, is);
    }

    public int forget(int what) {
        if (!within(what, 0, 1)) {
            return BAD;
        }
        return what == 0 ? seenRows.clear() : bookRows.clear();
    }

    public int when(int i) {
        if (!within(i, NONE, DAYS - 1)) {
            return BAD;
        }
        long days = daysAsSeen();
        return i == NONE ? Long.bitCount(days) : dayInOrder(days, i);
    }

    public int ask() {
        Laws laws = laws();
        long days = daysAsSeen();
        int best = NONE;
        int least = 0;
        for (int deed = 0; deed < text.number(); deed++) {
            int open = Long.bitCount(days & laws.openDays(deed));
            int greater = Math.max(open, Long.bitCount(days) - open);
            if (best == NONE || greater < least) {
                best = deed;
                least = greater;
            }
        }
        return best;
    }

    public int forged() {
        int bits = 0;
        supposed.seat(sickRows, leapRows);
        for (int e = 0; e < edictRows.size(); e++) {
            supposed.speak(text, rule, edictRows, e);
            if (agreesWithBook(supposed)) {
                bits |= 1 << e;
            }
        }
        return bits;
    }

    public long chance(int c, int day, int deed, int days, int what) {
        if (!within(c, 0, 16) || !isDay(day) || !text.has(deed) || !within(days, 1, 6)
                || !isDay(day + days - 1) || !within(what, 0, 1)) {
            return LEAST_LONG - BAD;
        }
        Laws laws = laws();
        long above = 1;
        long below = 1;
        for (int d = day; d < day + days; d++) {
            above *= laws.openIn256(d, deed, c);
            below *= 256;
        }
        return inLowestTerms(above, below, what);
    }

    public int year(int seed, int n, int what) {
        if (!within(n, 1, DAYS) || !within(what, 0, 1)) {
            return BAD;
        }
        Laws laws = laws();
        int number = text.number();
        int lots = seed;
        int sum = 0;
        for (int day = 0; day < n && number > 0; day++) {
            lots = 1103515245 * lots + 12345;
            int deed = (lots >>> 16) % number;
            if (bit(laws.openOn(day), deed) == 0) {
                sum += what == 0 ? 1 : text.fineOf(deed);
            }
        }
        return sum;
    }

    // ---- sheets

    public int sheet(int s, int form, int n) {
        if (!isSheet(s) || !isForm(form) || n > MOST_ITEMS) {
            return BAD;
        }
        if (n < 0) {
            return found(SIZE);
        }
        sheets[s].begin(form, n);
        return n;
    }

    public int lose(int s) {
        if (!isSheet(s)) {
            return BAD;
        }
        if (sheets[s].isLost()) {
            return found(NULL);
        }
        return sheets[s].tear();
    }

    public int put(int s, int form, int i, int v) {
        if (!isSheet(s) || !isForm(form)) {
            return BAD;
        }
        int fails = itemFinding(sheets[s], form, i);
        if (fails != 0) {
            return found(fails);
        }
        sheets[s].keep(i, v);
        return 1;
    }

    public int get(int s, int form, int i) {
        if (!isSheet(s) || !isForm(form)) {
            return LEAST_INT;
        }
        int fails = itemFinding(sheets[s], form, i);
        if (fails != 0) {
            found(fails);
            return LEAST_INT;
        }
        return sheets[s].item(i);
    }

    public int copy(int s, int i, int t, int j, int n) {
        if (!isSheet(s) || !isSheet(t)) {
            return BAD;
        }
        Sheet from = sheets[s];
        Sheet to = sheets[t];
        if (from.isLost() || to.isLost()) {
            return found(NULL);
        }
        if (from.form() != to.form()) {
            return found(STORE);
        }
        if (!from.hasRange(i, n) || !to.hasRange(j, n)) {
            return found(INDEX);
        }
        to.takeItems(j, from, i, n);
        return 1;
    }

    public int write(int s) {
        if (!isSheet(s)) {
            return BAD;
        }
        Sheet to = sheets[s];
        if (to.isLost()) {
            return found(NULL);
        }
        Laws laws = laws();
        int written = Math.min(to.size(), DAYS);
        for (int day = 0; day < written; day++) {
            to.keep(day, laws.openOn(day));
        }
        return written;
    }

    public int count(int what) {
        switch (what) {
            case 0:
                return text.number();
            case 1:
                return text.length();
            case 2:
                return sickRows.size();
            case 3:
                return leapRows.size();
            case 4:
                return edictRows.size();
            case 5:
                return doneRows.size();
            case 6:
                return taskRows.size();
            case 7:
                return seenRows.size() + bookRows.size();
            case 8:
                return finding;
            default:
                return BAD;
        }
    }

    public long digest() {
        long h = 17;
        for (int what = 0; what <= 7; what++) {
            h = mix(h, count(what));
        }
        h = mix(h, fault());
        h = mixDeeds(h);
        h = mixDays(h);
        h = mix(mix(h, never()), alike());
        h = mixFines(h);
        h = mixPlans(h);
        h = mix(mix(h, when(NONE)), when(0));
        h = mix(mix(h, ask()), forged());
        return mix(mix(h, year(7, 30, 0)), year(7, 30, 1));
    }

    // ---- parts of the digest

    private static long mix(long h, long v) {
        return 31 * h + v;
    }

    private long mixDeeds(long start) {
        long h = start;
        for (int k = 0; k < text.number(); k++) {
            h = mix(mix(mix(h, deed(k, 0)), deed(k, 1)), deed(k, 2));
            h = mix(mix(h, crossing(k)), soonest(k, 3, 5));
            h = mix(mix(h, cheapest(k, 4, 2, 0)), cheapest(k, 4, 2, 1));
            h = mix(mix(h, chance(5, 3, k, 4, 0)), chance(5, 3, k, 4, 1));
        }
        return h;
    }

    private long mixDays(long start) {
        long h = start;
        for (int day : DIGEST_DAYS) {
            h = mix(h, rules(day));
            h = mix(mix(h, allows(day, ELDER)), allows(day, YOUNGER));
            h = mix(h, allowed(day));
        }
        return h;
    }

    private long mixFines(long start) {
        long h = start;
        for (int done = 0; done < doneRows.size(); done++) {
            h = mix(h, fined(done));
        }
        return mix(mix(h, coins(ELDER)), coins(YOUNGER));
    }

    private long mixPlans(long start) {
        long h = mix(mix(start, finish(2, NONE)), finish(2, 0));
        h = mix(mix(h, plan(2, NONE)), plan(2, 0));
        return mix(mix(h, words(4, 2, 0)), words(4, 2, 1));
    }

    // ---- what may be asked for

    private static boolean within(int v, int least, int most) {
        return v >= least && v <= most;
    }

    private static boolean isDay(int day) {
        return day >= 0 && day < DAYS;
    }

    private static boolean isKing(int king) {
        return within(king, ELDER, YOUNGER);
    }

    private static boolean mayBeDeed(int deed) {
        return within(deed, 0, MOST_DEEDS - 1);
    }

    private static boolean isSheet(int s) {
        return within(s, 0, SHEETS - 1);
    }

    private static boolean isForm(int form) {
        return within(form, 0, 2);
    }

    // ---- state

    private int changed(int answer) {
        stale = true;
        return answer;
    }

    private Laws laws() {
        if (stale) {
            told.seat(sickRows, leapRows);
            told.speak(text, rule, edictRows, NONE);
            stale = false;
        }
        return told;
    }

    private Rows undoable(int what) {
        switch (what) {
            case 0:
                return sickRows;
            case 1:
                return leapRows;
            case 2:
                return edictRows;
            case 3:
                return doneRows;
            case 4:
                return taskRows;
            default:
                return null;
        }
    }

    private int found(int number) {
        finding = number;
        return -10 - number;
    }

    private static int itemFinding(Sheet sheet, int form, int i) {
        if (sheet.isLost()) {
            return NULL;
        }
        if (sheet.form() != form) {
            return CAST;
        }
        return sheet.hasRange(i, 1) ? 0 : INDEX;
    }

    // ---- fines

    /** A fine falls due only on days on which someone rules, so each one is in just one king's coin. */
    private int finesInCoin(Laws laws, int done, int king) {
        int deed = doneRows.second(done);
        if (!text.has(deed)) {
            return 0;
        }
        int first = doneRows.first(done);
        int last = first + doneRows.third(done) - 1;
        int from = court == 2 ? last : first;
        int to = court == 0 ? first : last;
        int sum = 0;
        for (int day = from; day <= to; day++) {
            if (bit(laws.openOn(day), deed) == 0 && laws.coinOn(day) == king) {
                sum += text.fineOf(deed);
            }
        }
        return sum;
    }

    // ---- what was seen, what is booked

    private long daysAsSeen() {
        Laws laws = laws();
        long days = ALL_DAYS;
        for (int k = 0; k < seenRows.size(); k++) {
            int deed = seenRows.first(k);
            long open = laws.openDays(deed);
            if (!text.has(deed)) {
                days = 0;
            } else {
                days &= seenRows.second(k) == 1 ? open : ~open;
            }
        }
        return days;
    }

    private boolean agreesWithBook(Laws laws) {
        for (int k = 0; k < bookRows.size(); k++) {
            int deed = bookRows.second(k);
            if (!text.has(deed) || bit(laws.openOn(bookRows.first(k)), deed) != bookRows.third(k)) {
                return false;
            }
        }
        return true;
    }

    // ---- bits

    private static int bit(int bits, int k) {
        return bits >>> k & 1;
    }

    private static boolean holdsDay(long days, int day) {
        return (days >>> day & 1) == 1;
    }

    private static int firstDay(long days, int from) {
        for (int day = from; day < DAYS; day++) {
            if (holdsDay(days, day)) {
                return day;
            }
        }
        return NONE;
    }

    private static int dayInOrder(long days, int i) {
        int ahead = 0;
        for (int day = 0; day < DAYS; day++) {
            if (holdsDay(days, day)) {
                if (ahead == i) {
                    return day;
                }
                ahead++;
            }
        }
        return NONE;
    }

    private static int closedDays(long open, int start, int days) {
        int closed = 0;
        for (int day = start; day < start + days; day++) {
            if (!holdsDay(open, day)) {
                closed++;
            }
        }
        return closed;
    }

    /** Below is a power of two, so halves are all that the two can share. */
    private static long inLowestTerms(long above, long below, int what) {
        long a = above;
        long b = below;
        for (int k = 0; k < 62 && (a & 1) == 0 && (b & 1) == 0; k++) {
            a >>= 1;
            b >>= 1;
        }
        return what == 0 ? a : b;
    }

    /** A bounded list of rows of up to three numbers. */
    private static final class Rows {
        private final int room;
        private final int[] firsts;
        private final int[] seconds;
        private final int[] thirds;
        private int size;

        Rows(int most) {
            room = Math.max(most, 0);
            firsts = new int[room];
            seconds = new int[room];
            thirds = new int[room];
        }

        int size() {
            return size;
        }

        int add(int a, int b, int c) {
            if (size >= room) {
                return FULL;
            }
            firsts[size] = a;
            seconds[size] = b;
            thirds[size] = c;
            size++;
            return size;
        }

        int dropLast() {
            if (size == 0) {
                return NOT;
            }
            size--;
            return size;
        }

        int clear() {
            int had = size;
            size = 0;
            return had;
        }

        int first(int k) {
            return within(k, 0, size - 1) ? firsts[k] : NONE;
        }

        int second(int k) {
            return within(k, 0, size - 1) ? seconds[k] : NONE;
        }

        int third(int k) {
            return within(k, 0, size - 1) ? thirds[k] : NONE;
        }

        boolean holds(int a, int b) {
            for (int k = 0; k < size; k++) {
                if (firsts[k] == a && seconds[k] == b) {
                    return true;
                }
            }
            return false;
        }
    }

    /** The text of the deeds and what it says. */
    private static final class DeedText {
        private static final int MOST_BYTES = 23;

        private final int[] bytes = new int[MOST_BYTES];
        private final int[] fines = new int[MOST_DEEDS];
        private int length;
        private int faultAt = NONE;
        private int number;
        private int elder;

        int length() {
            return length;
        }

        int number() {
            return number;
        }

        int faultPlace() {
            return faultAt;
        }

        boolean has(int deed) {
            return within(deed, 0, number - 1);
        }

        int fineOf(int deed) {
            return has(deed) ? fines[deed] : 0;
        }

        int elderBits() {
            return elder;
        }

        int youngerBits(int rule) {
            int bits = 0;
            for (int k = 0; k < number; k++) {
                bits |= youngerSays(k, rule) << k;
            }
            return bits;
        }

        int append(int b) {
            if (length >= MOST_BYTES) {
                return FULL;
            }
            bytes[length] = b;
            length++;
            parse();
            return length;
        }

        int dropLast() {
            if (length == 0) {
                return NOT;
            }
            length--;
            parse();
            return length;
        }

        int clear() {
            int had = length;
            length = 0;
            parse();
            return had;
        }

        private int youngerSays(int k, int rule) {
            if (rule == 2) {
                return bit(elder, k + 1 < number ? k + 1 : 0);
            }
            int pair = k ^ 1;
            if (rule == 1 && pair < number) {
                return bit(elder, pair);
            }
            return 1 - bit(elder, k);
        }

        private void parse() {
            number = 0;
            elder = 0;
            faultAt = findFault();
            if (faultAt != NONE) {
                return;
            }
            for (int at = 0; at + 1 < length && number < MOST_DEEDS; at += 3) {
                fines[number] = bytes[at] - '0';
                if (bytes[at + 1] == 'a') {
                    elder |= 1 << number;
                }
                number++;
            }
        }

        private int findFault() {
            for (int at = 0; at < length; at++) {
                if (!fits(at)) {
                    return at;
                }
            }
            return length == 0 || length % 3 == 2 ? NONE : length;
        }

        private boolean fits(int at) {
            if (!within(at, 0, length - 1) || at >= 3 * MOST_DEEDS) {
                return false;
            }
            int b = bytes[at];
            switch (at % 3) {
                case 0:
                    return within(b, '0', '9');
                case 1:
                    return b == 'a' || b == 'f';
                default:
                    return b == ';';
            }
        }
    }

    /** Who rules day by day, and what is said and allowed then, as bits of deeds. */
    private static final class Laws {
        private final int[] rulers = new int[DAYS];
        private final int[] elderSays = new int[DAYS];
        private final int[] youngerSays = new int[DAYS];
        private final int[] open = new int[DAYS];
        private final int[] turned = new int[DAYS];
        private int number;

        void seat(Rows sick, Rows leaps) {
            for (int day = 0; day < DAYS; day++) {
                rulers[day] = rulerBy(day, sick, leaps);
            }
        }

        /** The edict numbered without is taken as not given. */
        void speak(DeedText text, int rule, Rows edicts, int without) {
            number = text.number();
            gatherTurned(edicts, without);
            int elder = text.elderBits();
            int younger = text.youngerBits(rule);
            for (int day = 0; day < DAYS; day++) {
                int ruler = rulers[day];
                elderSays[day] = elder;
                youngerSays[day] = younger;
                open[day] = openBy(ruler, elder, younger);
                if (ruler == ELDER || ruler == BOTH) {
                    elder ^= turned[day];
                }
                if (ruler == YOUNGER || ruler == BOTH) {
                    younger ^= turned[day];
                }
            }
        }

        int everyDeed() {
            return (1 << number) - 1;
        }

        int rulerOn(int day) {
            return isDay(day) ? rulers[day] : NONE;
        }

        /** Whose coin a fine for that day is paid in. */
        int coinOn(int day) {
            return rulerOn(day) == BOTH ? ELDER : rulerOn(day);
        }

        int saidOn(int day, int king) {
            if (!isDay(day)) {
                return 0;
            }
            return king == ELDER ? elderSays[day] : youngerSays[day];
        }

        int openOn(int day) {
            return isDay(day) ? open[day] : 0;
        }

        /** The days on which a deed is allowed, as bits. */
        long openDays(int deed) {
            long days = 0;
            if (!within(deed, 0, number - 1)) {
                return days;
            }
            for (int day = 0; day < DAYS; day++) {
                days |= (long) bit(open[day], deed) << day;
            }
            return days;
        }

        /** The days from which on a deed is allowed for so many days, as bits. */
        long startDays(int deed, int days) {
            long openDays = openDays(deed);
            long starts = openDays;
            for (int k = 1; k < days; k++) {
                starts &= openDays >>> k;
            }
            return starts;
        }

        /** By how many 256ths a deed is allowed on a day, if each king is sick by c sixteenths. */
        int openIn256(int day, int deed, int c) {
            if (rulerOn(day) == BOTH) {
                return 256 * bit(openOn(day), deed);
            }
            if (isSunday(day)) {
                return 256;
            }
            int turn = kingInTurn(day);
            int own = 16 * (16 - c) * bit(saidOn(day, turn), deed);
            int other = c * (16 - c) * bit(saidOn(day, 1 - turn), deed);
            return own + other + c * c;
        }

        /** How many deeds are allowed behind n days, if the kings that rule alone on these do their best. */
        int numberAtBest(int day, int n) {
            return playOn(day, n, 0, 0);
        }

        int wordAtBest(int day, int n) {
            int ruler = rulerOn(day);
            if (!isKing(ruler)) {
                return NONE;
            }
            int best = numberAtBest(day, n);
            for (int deed = 0; deed < number; deed++) {
                int word = 1 << deed;
                if (playOn(day + 1, n - 1, ruler == ELDER ? word : 0, ruler == ELDER ? 0 : word) == best) {
                    return deed;
                }
            }
            return NO_WORD;
        }

        /** The turns are what the words given so far change in what each king says. */
        private int playOn(int day, int left, int elderTurns, int youngerTurns) {
            if (left <= 0) {
                int elder = saidOn(day, ELDER) ^ elderTurns;
                int younger = saidOn(day, YOUNGER) ^ youngerTurns;
                return Integer.bitCount(openBy(rulerOn(day), elder, younger));
            }
            int best = playOn(day + 1, left - 1, elderTurns, youngerTurns);
            int ruler = rulerOn(day);
            for (int deed = 0; deed < number && isKing(ruler); deed++) {
                int word = 1 << deed;
                if (ruler == ELDER) {
                    best = Math.max(best, playOn(day + 1, left - 1, elderTurns ^ word, youngerTurns));
                } else {
                    best = Math.min(best, playOn(day + 1, left - 1, elderTurns, youngerTurns ^ word));
                }
            }
            return best;
        }

        private static boolean isSunday(int day) {
            return day % 7 == 6;
        }

        private static int kingInTurn(int day) {
            return day % 2 == 0 ? ELDER : YOUNGER;
        }

        private static int rulerBy(int day, Rows sick, Rows leaps) {
            if (leaps.holds(day, 0)) {
                return BOTH;
            }
            if (isSunday(day)) {
                return NONE;
            }
            int turn = kingInTurn(day);
            if (!sick.holds(turn, day)) {
                return turn;
            }
            return sick.holds(1 - turn, day) ? NONE : 1 - turn;
        }

        private void gatherTurned(Rows edicts, int without) {
            for (int day = 0; day < DAYS; day++) {
                turned[day] = 0;
            }
            for (int e = 0; e < edicts.size(); e++) {
                int day = edicts.first(e);
                int deed = edicts.second(e);
                if (e != without && isDay(day) && within(deed, 0, number - 1)) {
                    turned[day] ^= 1 << deed;
                }
            }
        }

        private int openBy(int ruler, int elder, int younger) {
            switch (ruler) {
                case ELDER:
                    return elder;
                case YOUNGER:
                    return younger;
                case BOTH:
                    return elder & younger;
                default:
                    return everyDeed();
            }
        }
    }

    /** Tasks one behind the other, in their own order or in the best one. */
    private static final class Planner {
        private final long[] starts = new long[MOST_TASKS];
        private final int[] lengths = new int[MOST_TASKS];
        private final int[] turnStarts = new int[MOST_TASKS];
        private final int[] row = new int[MOST_TASKS];
        private final int[] bestRow = new int[MOST_TASKS];
        private int number;
        private int bestEnd;

        void prepare(Rows tasks, Laws laws) {
            number = Math.min(tasks.size(), MOST_TASKS);
            for (int i = 0; i < number; i++) {
                lengths[i] = tasks.second(i);
                starts[i] = laws.startDays(tasks.first(i), lengths[i]);
            }
        }

        /** One task that never can begin leaves no end, so the starts hold only if all were laid. */
        int layInTurn(int day) {
            int at = day;
            for (int k = 0; k < number; k++) {
                int start = firstDay(starts[k], at);
                if (start == NONE) {
                    return NONE;
                }
                turnStarts[k] = start;
                at = start + lengths[k];
            }
            return number == 0 ? NONE : at - 1;
        }

        int startInTurn(int i) {
            return within(i, 0, number - 1) ? turnStarts[i] : NONE;
        }

        int findBestRow(int day) {
            bestEnd = DAYS;
            if (number > 0) {
                search(0, day, 0);
            }
            return bestEnd == DAYS ? NONE : bestEnd;
        }

        int taskInBestRow(int i) {
            return within(i, 0, number - 1) ? bestRow[i] : NONE;
        }

        /** Rows come from the least one on, and only a sooner end is taken: so the least of like rows stays. */
        private void search(int depth, int at, int taken) {
            if (depth >= number) {
                bestEnd = at - 1;
                keepRow();
                return;
            }
            for (int i = 0; i < number; i++) {
                int start = firstDay(starts[i], at);
                int end = start + lengths[i] - 1;
                if (bit(taken, i) == 0 && start != NONE && end < bestEnd) {
                    row[depth] = i;
                    search(depth + 1, end + 1, taken | 1 << i);
                }
            }
        }

        private void keepRow() {
            for (int i = 0; i < number; i++) {
                bestRow[i] = row[i];
            }
        }
    }

    /** A row of bytes, shorts or ints; its items are held as ints that their form has already cut. */
    private static final class Sheet {
        private static final int LOST = -1;

        private final int[] items = new int[MOST_ITEMS];
        private int form = LOST;
        private int size;

        boolean isLost() {
            return form == LOST;
        }

        int form() {
            return form;
        }

        int size() {
            return size;
        }

        void begin(int newForm, int newSize) {
            form = newForm;
            size = Math.max(0, Math.min(newSize, MOST_ITEMS));
            for (int i = 0; i < size; i++) {
                items[i] = 0;
            }
        }

        int tear() {
            int had = size;
            form = LOST;
            size = 0;
            return had;
        }

        /** Written without a sum of i and n, which could wrap. */
        boolean hasRange(int i, int n) {
            return i >= 0 && n >= 0 && i <= size && n <= size - i;
        }

        int item(int i) {
            return within(i, 0, size - 1) ? items[i] : 0;
        }

        void keep(int i, int v) {
            if (within(i, 0, size - 1)) {
                items[i] = cut(v);
            }
        }

        void takeItems(int j, Sheet from, int i, int n) {
            if (hasRange(j, n) && from.hasRange(i, n)) {
                System.arraycopy(from.items, i, items, j, n);
            }
        }

        private int cut(int v) {
            switch (form) {
                case 0:
                    return (byte) v;
                case 1:
                    return (short) v;
                default:
                    return v;
            }
        }
    }
}
