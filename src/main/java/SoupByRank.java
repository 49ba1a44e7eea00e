/** Soup that cools by rank: a court, the laws of its table, its suppers, and what can be told of them. */
public final class SoupByRank {
    public static final int NONE = -1, BAD = -2, STATE = -3, FULL = -4;
    public static final long NO = -4611686018427387904L;

    private static final int NONE_SUCH = -5, UNTOLD = -7;
    private static final int FAR_NONE_SUCH = -5000, FAR_UNTOLD = -7000, NEVER_OFF = -6000, NO_ANSWER = -100000;
    private static final int NOTHING_THERE = -11, OUTSIDE = -12, OTHER_SORT = -13, BELOW_NOTHING = -14;

    private static final int MOST_COURTIERS = 6, MOST_TEXTS = 6, MOST_SHEETS = 4, MOST_CELLS = 40, TAPE_ROOM = 160;
    private static final int MOST_HEAT = 99, MOST_RANK = 99, MOST_MORE = 9, MOST_MOOD = 999, LAST_SUPPER = 999;
    private static final int LAST_MINUTE = 60, MOST_RUN = 20, LAST_SEED = 99999, MOST_SEEDS = 40, ALL_ORDERS = 720;
    private static final int FIRST_HEAT = 90, FIRST_MOOD = 500, NEVER_MINDS = 10;
    private static final int COURTIER = 0, EARL = 1, CHAPLAIN = 2, KING = 3, VISCOUNT = 4, LOVER = 5, A_MOOD = 6;
    private static final int COOLS = 0, WAITS = 1, LIKES = 2, PARTS = 3;
    private static final int MISSING = -1, BYTES = 0, SHORTS = 1, INTS = 2;
    /** More than all can ever mind together. */
    private static final int FAR_MORE = 1000000;

    private final Court court = new Court();
    /** The court as it would be: what is asked is tried here, so that nothing truly changes. */
    private final Court thought = new Court();
    private final Court kept = new Court();
    private boolean isKept;
    private final Evening evening = new Evening();
    private final Best best = new Best();
    private final Text firstText = new Text(new int[] {2, 3, 50}, new int[] {1, 2, 3});
    private final Text[] texts = new Text[MOST_TEXTS];
    private int textsThere = 1;
    private final Tape tape = new Tape();
    private final Sheet[] sheets = new Sheet[MOST_SHEETS];
    private final int[] turns = new int[MOST_COURTIERS];

    public SoupByRank() {
        texts[0] = firstText;
        for (int s = 0; s < MOST_SHEETS; s++) {
            sheets[s] = new Sheet();
        }
    }

    // ---- the court, the law

    public int count(int what) {
        switch (what) {
            case 0: return court.many;
            case 1: return court.supper;
            case 2: return court.heat;
            case 3: return textsThere;
            case 4: return court.law;
            case 5: return tape.size;
            default: return BAD;
        }
    }

    public int brings(int what, int v) {
        if (!isWithin(what, 0, 1) || !isWithin(v, 0, what == 0 ? LAST_SUPPER : MOST_HEAT)) {
            return BAD;
        }
        int was = what == 0 ? court.supper : court.heat;
        if (what == 0) {
            court.supper = v;
        } else {
            court.heat = v;
        }
        return was;
    }

    public int feed(int n, int a, int b, int c, int d, int e) {
        if (!isWithin(n, 1, 5) || !isByte(a) || !isByte(b) || !isByte(c) || !isByte(d) || !isByte(e)) {
            return BAD;
        }
        if (tape.size + n > TAPE_ROOM) {
            return FULL;
        }
        for (int i = 0; i < n; i++) {
            tape.add(i == 0 ? a : i == 1 ? b : i == 2 ? c : i == 3 ? d : e);
        }
        return tape.size;
    }

    public int text() {
        if (textsThere >= MOST_TEXTS) {
            return FULL;
        }
        int fault = tape.read();
        tape.size = 0;
        if (fault != Tape.NO_FAULT) {
            return -100 - fault;
        }
        texts[textsThere] = tape.written();
        textsThere++;
        return textsThere - 1;
    }

    public int force(int t) {
        if (!isWithin(t, 0, textsThere - 1)) {
            return BAD;
        }
        int was = court.law;
        court.law = t;
        return was;
    }

    public int asks(int part, int p, int now, int minute, int nth) {
        if (!isWithin(part, COOLS, LIKES) || (p != NONE && !isThere(p)) || !isWithin(now, 0, MOST_HEAT)
                || !isWithin(minute, 0, LAST_MINUTE) || !isWithin(nth, 0, MOST_COURTIERS)) {
            return BAD;
        }
        // the terms give cools a rank, a mood, a more of 0, whoever is meant
        evening.speakOf(court, part == COOLS ? NONE : p);
        return evening.says(lawOf(court), part, now, minute, nth);
    }

    public int courtier(int kindMore, int ranks) {
        if (!isCourtier(kindMore, ranks)) {
            return BAD;
        }
        if (court.many >= MOST_COURTIERS) {
            return FULL;
        }
        return court.admit(kindMore / 10, kindMore % 10, ranks);
    }

    public int put(int p, int what, int v) {
        if (!isThere(p)) {
            return NONE_SUCH;
        }
        if (!isWithin(what, 0, 1) || !isWithin(v, 0, what == 0 ? MOST_RANK : MOST_MOOD)) {
            return UNTOLD;
        }
        int[] row = what == 0 ? court.ranks : court.moods;
        int was = row[p];
        row[p] = v;
        return was;
    }

    public int told(int p, int what) {
        if (!isThere(p)) {
            return FAR_NONE_SUCH;
        }
        switch (what) {
            case 0: return court.ranks[p];
            case 1: return court.moods[p];
            case 2: return court.kinds[p];
            case 3: return court.mores[p];
            default: break;
        }
        serve(court);
        switch (what) {
            case 4: return evening.down[p];
            case 5: return evening.begins[p];
            case 6: return evening.gets[p];
            case 7: return evening.hasBegun(p) ? evening.off[p] : NEVER_OFF;
            case 8: return evening.hasBegun(p) ? evening.minds[p] : NEVER_OFF;
            default: return FAR_UNTOLD;
        }
    }

    // ---- suppers

    public int table(int what) {
        serve(court);
        switch (what) {
            case 0: return evening.last();
            case 1: return evening.lastMinute();
            case 2: return evening.together;
            case 3: return evening.neverBits(court.many);
            case 4: return evening.mindsMost(court.many);
            default: return NO_ANSWER;
        }
    }

    public int sup() {
        if (court.supper >= LAST_SUPPER) {
            return NO_ANSWER;
        }
        int together = serve(court);
        court.rise(evening);
        return together;
    }

    public int run(int p, int n, int what) {
        if (!isThere(p) || !isWithin(n, 0, MOST_RUN) || !isWithin(what, 0, 2)) {
            return NO_ANSWER;
        }
        thought.takeFrom(court);
        int ones = 0;
        int together = 0;
        for (int i = 0; i < n; i++) {
            together += serve(thought);
            ones += evening.costs(p);
            thought.rise(evening);
        }
        switch (what) {
            case 0: return thought.moods[p];
            case 1: return ones;
            default: return together;
        }
    }

    // ---- what is best

    public int cook(int what) {
        if (!isWithin(what, 0, 1)) {
            return NO_ANSWER;
        }
        thought.takeFrom(court);
        best.begin(0, FAR_MORE);
        for (int heat = 0; heat <= MOST_HEAT; heat++) {
            thought.heat = heat;
            best.weigh(heat, serve(thought));
        }
        return best.answer(what);
    }

    public int raise(int what) {
        if (!isWithin(what, 0, 1)) {
            return NO_ANSWER;
        }
        thought.takeFrom(court);
        best.begin(NONE, serve(court));
        for (int p = 0; p < court.many; p++) {
            for (int q = p + 1; q < court.many; q++) {
                thought.changeRanks(p, q);
                best.weigh(10 * p + q, serve(thought));
                thought.changeRanks(p, q);
            }
        }
        return best.answer(what);
    }

    public int exile(int what) {
        if (!isWithin(what, 0, 1)) {
            return NO_ANSWER;
        }
        thought.takeFrom(court);
        best.begin(NONE, serve(court));
        for (int p = 0; p < court.many; p++) {
            thought.away = p;
            best.weigh(p, serve(thought));
        }
        return best.answer(what);
    }

    public int seat(int p, int what) {
        if (!isThere(p)) {
            return FAR_NONE_SUCH;
        }
        if (!isWithin(what, 0, 1)) {
            return FAR_UNTOLD;
        }
        thought.takeFrom(court);
        best.begin(0, FAR_MORE);
        for (int rank = 0; rank <= MOST_RANK; rank++) {
            thought.ranks[p] = rank;
            serve(thought);
            best.weigh(rank, evening.costs(p));
        }
        return best.answer(what);
    }

    public int order(int what) {
        if (!isWithin(what, 0, 1)) {
            return NO_ANSWER;
        }
        thought.takeFrom(court);
        for (int i = 0; i < turns.length; i++) {
            turns[i] = i;
        }
        best.begin(0, FAR_MORE);
        for (int tried = 0; tried < ALL_ORDERS; tried++) {
            rankByTurns();
            best.weigh(digitsOfTurns(), serve(thought));
            if (!turnOn()) {
                break;
            }
        }
        return best.answer(what);
    }

    public long mean(int part) {
        serve(court);
        if (!isWithin(part, 0, 1) || evening.begun == 0) {
            return NO;
        }
        int got = 0;
        for (int p = 0; p < court.many; p++) {
            got += evening.hasBegun(p) ? evening.gets[p] : 0;
        }
        return inLowestTerms(got, evening.begun, part);
    }

    // ---- told suppers

    public int judge(int s) {
        int refusal = refusalOfTold(s);
        return refusal < 0 ? refusal : firstOtherwise(sheets[s], court);
    }

    public int kinds(int s, int p, int sort) {
        int refusal = refusalOfOne(s, p, sort);
        if (refusal < 0) {
            return refusal;
        }
        thought.takeFrom(court);
        int[] row = sort == 0 ? thought.kinds : thought.mores;
        int most = sort == 0 ? LOVER : MOST_MORE;
        int bits = 0;
        for (int v = 0; v <= most; v++) {
            row[p] = v;
            if (firstOtherwise(sheets[s], thought) == NONE) {
                bits |= 1 << v;
            }
        }
        return bits;
    }

    public int ranks(int s, int p, int what) {
        int refusal = refusalOfOne(s, p, what);
        if (refusal < 0) {
            return refusal;
        }
        thought.takeFrom(court);
        int many = 0;
        int least = NONE;
        for (int rank = MOST_RANK; rank >= 0; rank--) {
            thought.ranks[p] = rank;
            if (firstOtherwise(sheets[s], thought) == NONE) {
                many++;
                least = rank;
            }
        }
        return what == 0 ? many : least;
    }

    public int heats(int s, int what) {
        int refusal = refusalOfTold(s);
        if (refusal < 0) {
            return refusal;
        }
        if (!isWithin(what, 0, 1)) {
            return UNTOLD;
        }
        thought.takeFrom(court);
        int many = 0;
        int least = NONE;
        for (int heat = MOST_HEAT; heat >= 0; heat--) {
            thought.heat = heat;
            if (firstOtherwise(sheets[s], thought) == NONE) {
                many++;
                least = heat;
            }
        }
        return what == 0 ? many : least;
    }

    public int laws(int s) {
        int refusal = refusalOfTold(s);
        if (refusal < 0) {
            return refusal;
        }
        thought.takeFrom(court);
        int bits = 0;
        for (int t = 0; t < textsThere; t++) {
            thought.law = t;
            if (firstOtherwise(sheets[s], thought) == NONE) {
                bits |= 1 << t;
            }
        }
        return bits;
    }

    public int film(int s) {
        if (!isSheet(s)) {
            return BAD;
        }
        serve(court);
        sheets[s].become(BYTES, court.many);
        for (int p = 0; p < court.many; p++) {
            sheets[s].write(p, evening.gets[p]);
        }
        return court.many;
    }

    // ---- ranks by lots

    public int drawn(int seed, int what) {
        if (!isWithin(seed, 0, LAST_SEED) || !isWithin(what, 0, 1)) {
            return NO_ANSWER;
        }
        thought.takeFrom(court);
        thought.drawRanks(seed);
        int minds = serve(thought);
        return what == 0 ? minds : evening.last();
    }

    public long odds(int seed, int seeds, int most, int part) {
        if (!isWithin(seed, 0, LAST_SEED) || !isWithin(seeds, 1, MOST_SEEDS) || !isWithin(most, -999, 9999)
                || !isWithin(part, 0, 1)) {
            return NO;
        }
        thought.takeFrom(court);
        int fine = 0;
        for (int i = 0; i < seeds; i++) {
            thought.drawRanks(seed + i);
            if (serve(thought) <= most) {
                fine++;
            }
        }
        return inLowestTerms(fine, seeds, part);
    }

    public int image() {
        kept.takeFrom(court);
        isKept = true;
        return court.many;
    }

    public int back() {
        if (!isKept) {
            return STATE;
        }
        court.takeFrom(kept);
        return court.many;
    }

    // ---- the host

    public int sheet(int s, int sort, int n) {
        if (!isSheet(s)) {
            return BAD;
        }
        if (sort == MISSING) {
            sheets[s].become(MISSING, 0);
            return 1;
        }
        if (!isSort(sort) || n > MOST_CELLS) {
            return BAD;
        }
        if (n < 0) {
            return BELOW_NOTHING;
        }
        sheets[s].become(sort, n);
        return 1;
    }

    public int cell(int s, int i, int v) {
        if (!isSheet(s)) {
            return BAD;
        }
        if (sheets[s].isMissing()) {
            return NOTHING_THERE;
        }
        if (!sheets[s].hasPlace(i)) {
            return OUTSIDE;
        }
        sheets[s].write(i, v);
        return 1;
    }

    public int copy(int s, int i, int other, int j, int n) {
        if (!isSheet(s) || !isSheet(other)) {
            return BAD;
        }
        Sheet from = sheets[s];
        Sheet to = sheets[other];
        if (from.isMissing() || to.isMissing()) {
            return NOTHING_THERE;
        }
        if (from.sort != to.sort) {
            return OTHER_SORT;
        }
        if (!from.hasPlaces(i, n) || !to.hasPlaces(j, n)) {
            return OUTSIDE;
        }
        System.arraycopy(from.cells, i, to.cells, j, n);
        return n;
    }

    public int courtBy(int s, int sort, int from, int n) {
        if (!isSheet(s) || !isSort(sort) || !isWithin(n, 0, MOST_COURTIERS)) {
            return BAD;
        }
        Sheet sheet = sheets[s];
        if (sheet.isMissing()) {
            return NOTHING_THERE;
        }
        if (sheet.sort != sort) {
            return OTHER_SORT;
        }
        int came = 0;
        for (int k = 0; k < n; k++) {
            if (!sheet.hasPlaces(from, 2 * k + 2)) {
                return OUTSIDE;
            }
            if (courtier(sheet.cells[from + 2 * k], sheet.cells[from + 2 * k + 1]) >= 0) {
                came++;
            }
        }
        return came;
    }

    public int taken(int i, int kind) {
        if (!isWithin(kind, COURTIER, A_MOOD)) {
            return BAD;
        }
        if (!isWithin(i, 0, 2 * MOST_COURTIERS - 1)) {
            return OUTSIDE;
        }
        int p = i % MOST_COURTIERS;
        if (!isThere(p)) {
            return NOTHING_THERE;
        }
        if (i >= MOST_COURTIERS) {
            return kind == A_MOOD ? court.moods[p] : OTHER_SORT;
        }
        return isOneOf(court.kinds[p], kind) ? p : OTHER_SORT;
    }

    // ---- what is looked at ahead of an answer

    private static boolean isWithin(int v, int least, int most) {
        return v >= least && v <= most;
    }

    private static boolean isByte(int v) {
        return isWithin(v, 0, 255);
    }

    private static boolean isSort(int sort) {
        return isWithin(sort, BYTES, INTS);
    }

    private static boolean isSheet(int s) {
        return isWithin(s, 0, MOST_SHEETS - 1);
    }

    private static boolean isCourtier(int kindMore, int rank) {
        return isWithin(kindMore, 0, 10 * LOVER + MOST_MORE) && isWithin(rank, 0, MOST_RANK);
    }

    private boolean isThere(int p) {
        return isWithin(p, 0, court.many - 1);
    }

    /** 0, where the sheet can be held against a supper. */
    private int refusalOfTold(int s) {
        if (!isSheet(s)) {
            return BAD;
        }
        if (sheets[s].isMissing()) {
            return NOTHING_THERE;
        }
        return sheets[s].size > court.many ? BAD : 0;
    }

    private int refusalOfOne(int s, int p, int what) {
        int refusal = refusalOfTold(s);
        if (refusal < 0) {
            return refusal;
        }
        if (!isThere(p)) {
            return NONE_SUCH;
        }
        return isWithin(what, 0, 1) ? 0 : UNTOLD;
    }

    // ---- helpers of the answers

    private Text lawOf(Court of) {
        Text law = isWithin(of.law, 0, textsThere - 1) ? texts[of.law] : firstText;
        return law == null ? firstText : law;
    }

    /** How much all mind together. */
    private int serve(Court at) {
        return evening.serve(at, lawOf(at));
    }

    private int firstOtherwise(Sheet told, Court at) {
        evening.serve(at, lawOf(at));
        for (int p = 0; p < told.size && p < MOST_COURTIERS; p++) {
            if (told.cells[p] != evening.gets[p]) {
                return p;
            }
        }
        return NONE;
    }

    private void rankByTurns() {
        for (int i = 0; i < thought.many; i++) {
            thought.ranks[turns[i]] = thought.many - i;
        }
    }

    private int digitsOfTurns() {
        int digits = 0;
        for (int i = 0; i < thought.many; i++) {
            digits = 10 * digits + turns[i] + 1;
        }
        return digits;
    }

    /** Makes of the turns the next greater ones by digits; false, if they are the greatest. */
    private boolean turnOn() {
        int many = thought.many;
        int left = many - 2;
        for (; left >= 0 && turns[left] > turns[left + 1]; left--) { }
        if (left < 0) {
            return false;
        }
        int right = many - 1;
        for (; right > left + 1 && turns[right] < turns[left]; right--) { }
        changeTurns(left, right);
        for (int i = left + 1, j = many - 1; i < j; i++, j--) {
            changeTurns(i, j);
        }
        return true;
    }

    private void changeTurns(int i, int j) {
        int was = turns[i];
        turns[i] = turns[j];
        turns[j] = was;
    }

    private static long inLowestTerms(int above, int below, int part) {
        int a = above;
        int b = below;
        // the rests shrink at least as fast as Fibonacci's numbers: 100 steps are more than an int needs
        for (int i = 0; i < 100 && b != 0; i++) {
            int rest = a % b;
            a = b;
            b = rest;
        }
        int asked = part == 0 ? above : below;
        return a == 0 ? asked : asked / a;
    }

    // ---- what the kinds do, each told by the kind above it

    private static boolean isOneOf(int kind, int wanted) {
        switch (wanted) {
            case COURTIER: return true;
            case EARL: return kind == EARL || kind == KING;
            case CHAPLAIN: return kind == CHAPLAIN || kind == VISCOUNT;
            default: return kind == wanted;
        }
    }

    private static int earlWaiting(int more, int says, int hot) {
        return hot > 60 ? says + more : says;
    }

    private static int waiting(int kind, int more, int says, int hot, int supper) {
        switch (kind) {
            case EARL: return earlWaiting(more, says, hot);
            case KING: return earlWaiting(more, says, hot) / 2;
            case VISCOUNT: return supper % 4 == 0 ? more : says;
            case LOVER: return 0;
            default: return says;
        }
    }

    private static int liking(int kind, int more, int says) {
        switch (kind) {
            case CHAPLAIN: case VISCOUNT: return Math.max(0, says - more);
            case KING: return MOST_HEAT - says;
            default: return says;
        }
    }

    private static int chaplainMinding(int off) {
        return off < 0 ? -off / 2 : off;
    }

    private static int minding(int kind, int more, int off) {
        switch (kind) {
            case EARL: case KING: return off > 0 ? 2 * off : -off;
            case CHAPLAIN: return chaplainMinding(off);
            case VISCOUNT: return Math.max(0, chaplainMinding(off) - more);
            case LOVER: return -more;
            default: return Math.abs(off);
        }
    }

    /** All that an image keeps, and the courtiers' kinds, which no call changes. */
    private static final class Court {
        private int many;
        private int supper;
        private int heat = FIRST_HEAT;
        private int law;
        /** Who is thought away. */
        private int away = NONE;
        private final int[] kinds = new int[MOST_COURTIERS];
        private final int[] mores = new int[MOST_COURTIERS];
        private final int[] ranks = new int[MOST_COURTIERS];
        private final int[] moods = new int[MOST_COURTIERS];

        int admit(int kind, int more, int rank) {
            int p = many;
            if (p >= MOST_COURTIERS) {
                return FULL;
            }
            kinds[p] = kind;
            mores[p] = more;
            ranks[p] = rank;
            moods[p] = FIRST_MOOD;
            many++;
            return p;
        }

        void takeFrom(Court other) {
            many = other.many;
            supper = other.supper;
            heat = other.heat;
            law = other.law;
            away = other.away;
            for (int p = 0; p < MOST_COURTIERS; p++) {
                kinds[p] = other.kinds[p];
                mores[p] = other.mores[p];
                ranks[p] = other.ranks[p];
                moods[p] = other.moods[p];
            }
        }

        boolean isBetter(int p, int than) {
            return ranks[p] > ranks[than] || (ranks[p] == ranks[than] && p < than);
        }

        void changeRanks(int p, int q) {
            int was = ranks[p];
            ranks[p] = ranks[q];
            ranks[q] = was;
        }

        void drawRanks(int seed) {
            long lot = seed + 1L;
            for (int p = 0; p < many; p++) {
                lot = lot * 48271L % 2147483647L;
                ranks[p] = (int) (lot % 100L);
            }
        }

        /** A supper is over: the moods are what it makes of them. */
        void rise(Evening from) {
            for (int p = 0; p < many; p++) {
                moods[p] = Math.max(0, Math.min(MOST_MOOD, moods[p] - from.costs(p)));
            }
            supper++;
        }
    }

    /** One supper as it goes: its rows are made once and told anew by each serving. */
    private static final class Evening {
        private final int[] line = new int[MOST_COURTIERS];
        private final int[] down = new int[MOST_COURTIERS];
        private final int[] begins = new int[MOST_COURTIERS];
        private final int[] gets = new int[MOST_COURTIERS];
        private final int[] off = new int[MOST_COURTIERS];
        private final int[] minds = new int[MOST_COURTIERS];
        private final int[] names = new int[Text.NAMES];
        private final int[] stack = new int[TAPE_ROOM];
        private int there;
        private int begun;
        private int together;

        int serve(Court court, Text law) {
            lineUp(court);
            begun = 0;
            together = 0;
            int hot = court.heat;
            int minute = 0;
            for (int nth = 0; nth < there && minute <= LAST_MINUTE; nth++) {
                int wait = begin(court, law, line[nth], hot, minute);
                // behind the last one nobody is left who could get it cooler
                int until = nth + 1 < there ? minute + wait : minute;
                speakOf(court, NONE);
                for (; minute < until && minute <= LAST_MINUTE; minute++) {
                    hot = Math.max(0, hot - says(law, COOLS, hot, minute, nth));
                }
            }
            return together;
        }

        private void lineUp(Court court) {
            there = 0;
            for (int p = 0; p < court.many; p++) {
                begins[p] = NONE;
                gets[p] = NONE;
                down[p] = 0;
                for (int q = 0; q < court.many; q++) {
                    if (q != court.away && court.isBetter(q, p)) {
                        down[p]++;
                    }
                }
                if (p != court.away) {
                    line[down[p]] = p;
                    there++;
                }
            }
        }

        /** How long the one who begins keeps the next one waiting. */
        private int begin(Court court, Text law, int p, int hot, int minute) {
            int kind = court.kinds[p];
            int more = court.mores[p];
            speakOf(court, p);
            begins[p] = minute;
            gets[p] = hot;
            off[p] = hot - liking(kind, more, says(law, LIKES, hot, minute, down[p]));
            minds[p] = minding(kind, more, off[p]);
            together += minds[p];
            begun++;
            return waiting(kind, more, says(law, WAITS, hot, minute, down[p]), hot, court.supper);
        }

        void speakOf(Court court, int p) {
            boolean isOne = p >= 0 && p < MOST_COURTIERS;
            names[3] = isOne ? court.ranks[p] : 0;
            names[4] = isOne ? court.moods[p] : 0;
            names[5] = isOne ? court.mores[p] : 0;
        }

        /** Of whom it says it, speakOf tells ahead. */
        int says(Text law, int part, int hot, int minute, int nth) {
            names[0] = hot;
            names[1] = minute;
            names[2] = nth;
            int most = part == WAITS ? 20 : MOST_HEAT;
            return Math.max(0, Math.min(most, law.value(part, names, stack)));
        }

        boolean hasBegun(int p) {
            return begins[p] != NONE;
        }

        int costs(int p) {
            return hasBegun(p) ? minds[p] : NEVER_MINDS;
        }

        int last() {
            return begun > 0 ? line[begun - 1] : NONE;
        }

        int lastMinute() {
            return begun > 0 ? begins[line[begun - 1]] : NONE;
        }

        int neverBits(int many) {
            int bits = 0;
            for (int p = 0; p < many; p++) {
                bits |= hasBegun(p) ? 0 : 1 << p;
            }
            return bits;
        }

        int mindsMost(int many) {
            int most = NONE;
            for (int p = 0; p < many; p++) {
                if (hasBegun(p) && (most == NONE || minds[p] > minds[most])) {
                    most = p;
                }
            }
            return most;
        }
    }

    /** Of all that is weighed, what has the least; of like ones the first. */
    private static final class Best {
        private int who;
        private int least;

        void begin(int one, int minds) {
            who = one;
            least = minds;
        }

        void weigh(int one, int minds) {
            if (minds < least) {
                begin(one, minds);
            }
        }

        int answer(int what) {
            return what == 0 ? who : least;
        }
    }

    /** A text as codes, what is joined ahead of what joins it: a number as itself, all others below 0. */
    private static final class Text {
        private static final int NAMES = 6, FIRST_NAME = -1, LAST_NAME = -6;
        private static final int NEGATE = -7, NOT = -8, TIMES = -9, PLUS = -10, MINUS = -11;
        private static final int LESS = -12, LIKE = -13, AND = -14, OR = -15;

        private final int[] codes;
        private final int[] ends;

        Text(int[] codes, int[] ends) {
            this.codes = codes;
            this.ends = ends;
        }

        int value(int part, int[] names, int[] stack) {
            if (part < 0 || part >= ends.length) {
                return 0;
            }
            int top = 0;
            for (int i = part == 0 ? 0 : ends[part - 1]; i < ends[part] && i < codes.length; i++) {
                int code = codes[i];
                if (code >= LAST_NAME) {
                    if (top < stack.length) {
                        stack[top] = code >= 0 ? code : names[FIRST_NAME - code];
                        top++;
                    }
                } else if (code >= NOT) {
                    if (top >= 1) {
                        stack[top - 1] = code == NEGATE ? -stack[top - 1] : stack[top - 1] == 0 ? 1 : 0;
                    }
                } else if (top >= 2) {
                    top--;
                    stack[top - 1] = joined(code, stack[top - 1], stack[top]);
                }
            }
            return top > 0 ? stack[0] : 0;
        }

        private static int joined(int code, int a, int b) {
            switch (code) {
                case TIMES: return a * b;
                case PLUS: return a + b;
                case MINUS: return a - b;
                case LESS: return a < b ? 1 : 0;
                case LIKE: return a == b ? 1 : 0;
                case AND: return a != 0 && b != 0 ? 1 : 0;
                case OR: return a != 0 || b != 0 ? 1 : 0;
                default: return 0;
            }
        }
    }

    /**
     * The tape, read token by token into a text's codes. With the first fault the token becomes WRONG and stays so:
     * nothing takes that one, so that all that is still open ends by itself.
     */
    private static final class Tape {
        private static final int NO_FAULT = -1, MOST_OPEN = 5, MOST_DIGITS = 4;
        private static final int END = 0, WRONG = 1, NUMBER = 2;
        /** A word's token is FIRST_WORD and its place among WORDS. */
        private static final String WORDS = "cools waits likes or    and   not   heat  minutedown  rank  mood  more  ";
        private static final int WORD_SIZE = 6, ALL_WORDS = 12;
        private static final int FIRST_WORD = 1000, OR = 1003, AND = 1004, NOT = 1005, FIRST_NAME = 1006;
        private static final String SIGNS = "();+-*<=";

        private final int[] bytes = new int[TAPE_ROOM];
        private int size;
        private final int[] codes = new int[TAPE_ROOM];
        private final int[] ends = new int[PARTS];
        private int used;
        private int place;
        private int token;
        private int tokenPlace;
        private int number;
        private int fault;

        void add(int b) {
            if (size < bytes.length) {
                bytes[size] = b;
                size++;
            }
        }

        /** The place of the fault, or NO_FAULT. */
        int read() {
            used = 0;
            place = 0;
            fault = NO_FAULT;
            advance();
            for (int part = 0; part < PARTS; part++) {
                demand(FIRST_WORD + part);
                readEither(0);
                demand(';');
                ends[part] = used;
            }
            if (token != END) {
                refuse();
            }
            return fault;
        }

        /** The text takes rows of its own along, as the next reading writes over these. */
        Text written() {
            return new Text(firstOf(codes, used), firstOf(ends, PARTS));
        }

        private static int[] firstOf(int[] row, int n) {
            int size = Math.max(0, Math.min(n, row.length));
            int[] own = new int[size];
            System.arraycopy(row, 0, own, 0, size);
            return own;
        }

        private void readEither(int open) {
            readBoth(open);
            for (int i = 0; i < TAPE_ROOM && token == OR; i++) {
                advance();
                readBoth(open);
                write(Text.OR);
            }
        }

        private void readBoth(int open) {
            readNot(open);
            for (int i = 0; i < TAPE_ROOM && token == AND; i++) {
                advance();
                readNot(open);
                write(Text.AND);
            }
        }

        private void readNot(int open) {
            if (token != NOT) {
                readComparison(open);
            } else if (open >= MOST_OPEN) {
                refuse();
            } else {
                advance();
                readNot(open + 1);
                write(Text.NOT);
            }
        }

        private void readComparison(int open) {
            readSum(open);
            if (token == '<' || token == '=') {
                int code = token == '<' ? Text.LESS : Text.LIKE;
                advance();
                readSum(open);
                write(code);
            }
        }

        private void readSum(int open) {
            readTerm(open);
            for (int i = 0; i < TAPE_ROOM && (token == '+' || token == '-'); i++) {
                int code = token == '+' ? Text.PLUS : Text.MINUS;
                advance();
                readTerm(open);
                write(code);
            }
        }

        private void readTerm(int open) {
            readOne(open);
            for (int i = 0; i < TAPE_ROOM && token == '*'; i++) {
                advance();
                readOne(open);
                write(Text.TIMES);
            }
        }

        private void readOne(int open) {
            if (token == NUMBER) {
                write(number);
                advance();
            } else if (token >= FIRST_NAME) {
                write(Text.FIRST_NAME - (token - FIRST_NAME));
                advance();
            } else if (token == '-' && open < MOST_OPEN) {
                advance();
                readOne(open + 1);
                write(Text.NEGATE);
            } else if (token == '(' && open < MOST_OPEN) {
                advance();
                readEither(open + 1);
                demand(')');
            } else {
                refuse();
            }
        }

        private void demand(int wanted) {
            if (token == wanted) {
                advance();
            } else {
                refuse();
            }
        }

        private void refuse() {
            if (fault == NO_FAULT) {
                fault = tokenPlace;
            }
            token = WRONG;
        }

        private void write(int code) {
            if (used < codes.length) {
                codes[used] = code;
                used++;
            }
        }

        private void advance() {
            if (fault != NO_FAULT) {
                return;
            }
            for (; place < size && isBlank(bytes[place]); place++) { }
            tokenPlace = place;
            if (place >= size) {
                token = END;
            } else if (isLetter(bytes[place])) {
                for (; place < size && isLetter(bytes[place]); place++) { }
                token = wordFrom(tokenPlace, place);
            } else if (isDigit(bytes[place])) {
                for (; place < size && isDigit(bytes[place]); place++) { }
                token = numberFrom(tokenPlace, place);
            } else {
                token = isSign(bytes[place]) ? bytes[place] : WRONG;
                place++;
            }
        }

        private int numberFrom(int from, int to) {
            if (to - from > MOST_DIGITS) {
                return WRONG;
            }
            number = 0;
            for (int i = from; i < to; i++) {
                number = 10 * number + bytes[i] - '0';
            }
            return NUMBER;
        }

        private int wordFrom(int from, int to) {
            for (int w = 0; w < ALL_WORDS; w++) {
                if (isWord(w, from, to)) {
                    return FIRST_WORD + w;
                }
            }
            return WRONG;
        }

        private boolean isWord(int w, int from, int to) {
            if (to - from > WORD_SIZE) {
                return false;
            }
            for (int i = 0; i < WORD_SIZE; i++) {
                int read = from + i < to ? bytes[from + i] : ' ';
                if (read != WORDS.charAt(WORD_SIZE * w + i)) {
                    return false;
                }
            }
            return true;
        }

        private static boolean isBlank(int c) {
            return c == 32 || c == 10;
        }

        private static boolean isLetter(int c) {
            return c >= 'a' && c <= 'z';
        }

        private static boolean isDigit(int c) {
            return c >= '0' && c <= '9';
        }

        private static boolean isSign(int c) {
            return SIGNS.indexOf((char) c) >= 0;
        }
    }

    /** A row of numbers, or a missing one; its cells are made once, for the longest row. */
    private static final class Sheet {
        private int sort = MISSING;
        private int size;
        private final int[] cells = new int[MOST_CELLS];

        void become(int newSort, int newSize) {
            sort = newSort;
            size = Math.max(0, Math.min(newSize, MOST_CELLS));
            for (int i = 0; i < MOST_CELLS; i++) {
                cells[i] = 0;
            }
        }

        boolean isMissing() {
            return sort == MISSING;
        }

        boolean hasPlace(int i) {
            return i >= 0 && i < size;
        }

        /** By a difference, as a sum could pass the greatest int. */
        boolean hasPlaces(int from, int n) {
            return from >= 0 && n >= 0 && from <= size && n <= size - from;
        }

        void write(int i, int v) {
            if (hasPlace(i)) {
                cells[i] = sort == BYTES ? (byte) v : sort == SHORTS ? (short) v : v;
            }
        }
    }
}
