/** Each call at its edges: the last values taken, the first ones refused, nothing there, all places taken. */
public final class CallEdgesTest {
    private static final Due DUE = new Due("CallEdgesTest");
    private static final Edges EDGES = new Edges(DUE);
    private static final long NO = SoupByRank.NO;

    // ---- the court, the law

    private static void promise1NothingThere() {
        SoupByRank x = Made.none();
        for (int p = -1; p < 6; p++) {
            DUE.is("no COURTIER " + p, x.told(p, 0), -5000);
        }
        for (int s = 0; s < 4; s++) {
            DUE.is("no SHEET " + s, x.judge(s), -11);
        }
        for (int i = 0; i < 12; i++) {
            DUE.is("nothing at place " + i, x.taken(i, i / 6 * 6), -11);
        }
        DUE.is("no COURTIERS", x.count(0), 0);
        DUE.is("SUPPER", x.count(1), 0);
        DUE.is("HEAT", x.count(2), 90);
        DUE.is("TEXT 0 alone", x.count(3), 1);
        DUE.is("which is THE LAW", x.count(4), 0);
        DUE.is("an empty TAPE", x.count(5), 0);
        DUE.is("no IMAGE", x.back(), -3);
    }

    private static void promise2Count() {
        EDGES.within("count(what)", Made::some, SoupByRank::count, 0, 3, 5, 20, -2);
        EDGES.within("count(what), full", Made::full, SoupByRank::count, 0, 6, 5, 160, -2);
        DUE.is("TEXTS, full", Made.full().count(3), 6);
    }

    private static void promise3Brings() {
        EDGES.within("SUPPER", Made::some, (x, v) -> x.brings(0, v), 0, 5, 999, 5, -2);
        EDGES.within("HEAT", Made::some, (x, v) -> x.brings(1, v), 0, 77, 99, 77, -2);
        EDGES.within("brings(what)", Made::some, (x, v) -> x.brings(v, 50), 0, 5, 1, 77, -2);
        for (int v : new int[] {0, 1, 99, 100, 998, 999}) {
            EDGES.taken("SUPPER then", Made::some, (x, w) -> x.brings(0, w) * 0 + x.count(1), v, v);
        }
        for (int v : new int[] {0, 1, 98, 99}) {
            EDGES.taken("HEAT then", Made::some, (x, w) -> x.brings(1, w) * 0 + x.count(2), v, v);
        }
    }

    private static void promise4Feed() {
        EDGES.within("feed(n)", Made::some, (x, v) -> x.feed(v, 0, 255, 1, 2, 3), 1, 21, 5, 25, -2);
        for (int n : new int[] {1, 5}) {
            EDGES.within("byte a", Made::some, (x, v) -> x.feed(n, v, 0, 0, 0, 0), 0, 20 + n, 255, 20 + n, -2);
            EDGES.within("byte b", Made::some, (x, v) -> x.feed(n, 0, v, 0, 0, 0), 0, 20 + n, 255, 20 + n, -2);
            EDGES.within("byte c", Made::some, (x, v) -> x.feed(n, 0, 0, v, 0, 0), 0, 20 + n, 255, 20 + n, -2);
            EDGES.within("byte d", Made::some, (x, v) -> x.feed(n, 0, 0, 0, v, 0), 0, 20 + n, 255, 20 + n, -2);
            EDGES.within("byte e", Made::some, (x, v) -> x.feed(n, 0, 0, 0, 0, v), 0, 20 + n, 255, 20 + n, -2);
        }
        for (int n = 1; n <= 5; n++) {
            int size = 160 - n;
            EDGES.taken("feed, just room", () -> Made.tape(size), (x, v) -> x.feed(v, 1, 1, 1, 1, 1), n, 160);
            EDGES.still("feed, no room", () -> Made.tape(size + 1), (x, v) -> x.feed(v, 1, 1, 1, 1, 1), n, -4);
        }
        for (int n : new int[] {0, 6}) {
            EDGES.still("BAD ahead of FULL", Made::full, (x, v) -> x.feed(v, 1, 1, 1, 1, 1), n, -2);
        }
        EDGES.still("a bad byte ahead of FULL", Made::full, (x, v) -> x.feed(1, 1, 1, 1, 1, v), 256, -2);
        EDGES.still("a bad byte ahead of FULL", Made::full, (x, v) -> x.feed(5, v, 1, 1, 1, 1), -1, -2);
    }

    private static void promise5Text() {
        EDGES.still("an empty TAPE's FAULT", Made::none, (x, v) -> x.text(), 0, -100);
        EDGES.still("FULL, a sound text on the tape", Made::full, (x, v) -> x.text(), 0, -4);
        SoupByRank x = Made.tape(0);
        for (int t = 1; t <= 5; t++) {
            DUE.is("text " + t, Due.text(x, "cools 1;waits 2;likes 3;"), t);
            DUE.is("THE TAPE is empty then", x.count(5), 0);
            DUE.is("THE LAW stays", x.count(4), 0);
            DUE.is("TEXTS", x.count(3), t + 1);
        }
        DUE.is("no seventh, the tape being empty", x.text(), -4);
        Due.feed(x, "#");
        DUE.is("FULL ahead of the FAULT", x.text(), -4);
        DUE.is("THE TAPE stays", x.count(5), 1);
        x = Made.some();
        DUE.is("a FAULT, in the midst", x.text(), -100 - 18);
        DUE.is("THE TAPE is empty, by a FAULT too", x.count(5), 0);
        DUE.is("no text came", x.count(3), 3);
        DUE.is("THE LAW stays, by a FAULT", x.count(4), 1);
        DUE.is("a FAULT behind 159 bytes", Due.text(Made.tape(159), "#"), -100 - 159);
        DUE.is("a FAULT behind all bytes", Made.tape(160).text(), -100 - 160);
        DUE.is("a text of all bytes", Due.text(Made.tape(136), "cools 1;waits 2;likes 3;"), 1);
        SoupByRank y = Made.none();
        Made.write(y, "cools 1;waits 2;likes 3;" + " ".repeat(136));
        DUE.is("a text, blanks behind it", y.text(), 1);
        DUE.is("a text that lost its last sign", Due.text(Made.tape(137), "cools 1;waits 2;likes 3;"), -100 - 160);
    }

    private static void promise6Force() {
        EDGES.within("force, one text", Made::none, SoupByRank::force, 0, 0, 0, 0, -2);
        EDGES.within("force, three texts", Made::some, SoupByRank::force, 0, 1, 2, 1, -2);
        EDGES.within("force, six texts", Made::full, SoupByRank::force, 0, 5, 5, 5, -2);
        for (int t = 0; t < 3; t++) {
            EDGES.taken("THE LAW then", Made::some, (x, v) -> x.force(v) * 0 + x.count(4), t, t);
        }
        EDGES.still("the law as it is", Made::some, SoupByRank::force, 1, 1);
    }

    /** By text 2 cools says heat, waits the minute, likes 16 times down. */
    private static SoupByRank asked() {
        SoupByRank x = Made.some();
        x.force(2);
        return x;
    }

    private static void promise7Asks() {
        EDGES.within("asks(part)", CallEdgesTest::asked, (x, v) -> x.asks(v, 0, 50, 7, 2), 0, 50, 2, 32, -2);
        EDGES.within("asks(p)", Made::some, (x, v) -> x.asks(1, v, 50, 7, 2), -1, 0, 2, 6, -2);
        EDGES.within("asks(p), nobody there", Made::none, (x, v) -> x.asks(1, v, 50, 7, 2), -1, 3, -1, 3, -2);
        EDGES.within("asks(now)", CallEdgesTest::asked, (x, v) -> x.asks(0, 0, v, 7, 2), 0, 0, 99, 99, -2);
        EDGES.within("asks(minute)", CallEdgesTest::asked, (x, v) -> x.asks(1, 0, 50, v, 2), 0, 0, 60, 20, -2);
        EDGES.within("asks(nth)", CallEdgesTest::asked, (x, v) -> x.asks(2, 0, 50, 7, v), 0, 0, 6, 96, -2);
        SoupByRank x = Made.some();
        x.text();
        Due.text(x, "cools heat;waits mood-470;likes rank;");
        Due.text(x, "cools heat;waits 21;likes more*10;");
        int[][] due = {{0, 0, 0}, {10, 41, 40}, {20, 50, 30}, {0, 50, 60}};
        for (int p = -1; p < 3; p++) {
            x.force(3);
            DUE.is("MOOD of " + p, x.asks(1, p, 50, 7, 2), due[p + 1][0]);
            DUE.is("RANK of " + p, x.asks(2, p, 50, 7, 2), due[p + 1][1]);
            x.force(4);
            DUE.is("MORE of " + p, x.asks(2, p, 50, 7, 2), due[p + 1][2]);
            DUE.is("waits 20 at most", x.asks(1, p, 50, 7, 2), 20);
        }
    }

    private static void promise8Courtier() {
        EDGES.within("courtier(kindMore)", Made::some, (x, v) -> x.courtier(v, 50), 0, 3, 59, 3, -2);
        EDGES.within("courtier(ranks)", Made::some, (x, v) -> x.courtier(14, v), 0, 3, 99, 3, -2);
        EDGES.taken("the first one", Made::none, (x, v) -> x.courtier(0, v), 0, 0);
        EDGES.still("no seventh", Made::full, (x, v) -> x.courtier(v, 0), 0, -4);
        EDGES.still("no seventh", Made::full, (x, v) -> x.courtier(v, 99), 59, -4);
        EDGES.still("BAD ahead of FULL", Made::full, (x, v) -> x.courtier(v, 0), 60, -2);
        EDGES.still("BAD ahead of FULL", Made::full, (x, v) -> x.courtier(v, 0), -1, -2);
        EDGES.still("BAD ahead of FULL", Made::full, (x, v) -> x.courtier(0, v), 100, -2);
        EDGES.still("BAD ahead of FULL", Made::full, (x, v) -> x.courtier(0, v), -1, -2);
        for (int kind = 0; kind < 6; kind++) {
            for (int more = 0; more < 10; more += 9) {
                SoupByRank x = Made.some();
                DUE.is("KIND " + kind + ", MORE " + more, x.courtier(10 * kind + more, 99), 3);
                DUE.is("its RANK", x.told(3, 0), 99);
                DUE.is("its MOOD", x.told(3, 1), 500);
                DUE.is("its KIND", x.told(3, 2), kind);
                DUE.is("its MORE", x.told(3, 3), more);
            }
        }
    }

    private static void promise9Put() {
        EDGES.within("put(p)", Made::some, (x, v) -> x.put(v, 1, 7), 0, 480, 2, 0, -5);
        EDGES.within("put(what)", Made::some, (x, v) -> x.put(0, v, 7), 0, 41, 1, 480, -7);
        EDGES.within("put RANK", Made::some, (x, v) -> x.put(2, 0, v), 0, 50, 99, 50, -7);
        EDGES.within("put MOOD", Made::some, (x, v) -> x.put(1, 1, v), 0, 999, 999, 999, -7);
        EDGES.still("put, nobody there", Made::none, (x, v) -> x.put(v, 0, 0), 0, -5);
        EDGES.taken("the sixth", Made::full, (x, v) -> x.put(v, 0, 0), 5, 90);
        EDGES.still("the seventh", Made::full, (x, v) -> x.put(v, 0, 0), 6, -5);
        for (int v : new int[] {0, 99}) {
            EDGES.taken("RANK then", Made::some, (x, w) -> x.put(1, 0, w) * 0 + x.told(1, 0), v, v);
        }
        for (int v : new int[] {0, 999}) {
            EDGES.taken("MOOD then", Made::some, (x, w) -> x.put(2, 1, w) * 0 + x.told(2, 1), v, v);
        }
    }

    private static void promise10Told() {
        EDGES.within("told(p)", Made::some, (x, v) -> x.told(v, 0), 0, 41, 2, 50, -5000);
        EDGES.within("told(p), six there", Made::full, (x, v) -> x.told(v, 0), 0, 40, 5, 90, -5000);
        EDGES.within("told(what)", Made::some, (x, v) -> x.told(2, v), 0, 50, 8, 25, -7000);
        EDGES.still("told, nobody there", Made::none, (x, v) -> x.told(v, 0), 0, -5000);
        int[] never = {5, 500, 0, 0, 4, -1, -1, -6000, -6000};
        for (int what = 0; what < 9; what++) {
            EDGES.still("told of one who never begins", Made::tooMany, (x, v) -> x.told(4, v), what, never[what]);
        }
        for (int p = 0; p < 6; p++) {
            EDGES.taken("DOWN in a full court", Made::full, (x, v) -> x.told(v, 4), p, 5 - p);
        }
    }

    // ---- suppers

    private static void promise11Table() {
        int[] nobody = {-1, -1, 0, 0, -1};
        int[] one = {0, 0, 40, 0, 0};
        int[] three = {0, 9, 65, 0, 0};
        int[] many = {3, 60, 20, 16, 0};
        for (int what = 0; what < 5; what++) {
            EDGES.still("table of nobody", Made::none, SoupByRank::table, what, nobody[what]);
            EDGES.still("table of one", () -> Due.court(0, 9), SoupByRank::table, what, one[what]);
            EDGES.still("table", Made::some, SoupByRank::table, what, three[what]);
            EDGES.still("table, one never begins", Made::tooMany, SoupByRank::table, what, many[what]);
        }
        EDGES.within("table(what)", Made::some, SoupByRank::table, 0, 0, 4, 0, -100000);
        // who never begins, as bits: the first one by number, and all but three
        EDGES.still("0 never begins", () -> ranked(5, 6, 7, 8, 9), SoupByRank::table, 3, 1);
        EDGES.still("3 to 5 never begin", CallEdgesTest::slow, SoupByRank::table, 3, 8 + 16 + 32);
        EDGES.within("table(what) of nobody", Made::none, SoupByRank::table, 0, -1, 4, -1, -100000);
    }

    /** COURTIERS who wait for 20 minutes each. */
    private static SoupByRank ranked(int... ranks) {
        SoupByRank x = Made.none();
        for (int rank : ranks) {
            x.courtier(0, rank);
        }
        return Due.under(x, "cools 0;waits 20;likes 85;");
    }

    /** Six EARLS who wait for 29 minutes each. */
    private static SoupByRank slow() {
        return Due.under(Due.court(19, 9, 19, 8, 19, 7, 19, 6, 19, 5, 19, 4), "cools 0;waits 20;likes 85;");
    }

    private static SoupByRank supperAt(int supper) {
        SoupByRank x = Made.some();
        x.brings(0, supper);
        return x;
    }

    private static void promise12Sup() {
        EDGES.taken("sup() at 0", () -> supperAt(0), (x, v) -> x.sup(), 0, 65);
        EDGES.taken("SUPPER then", () -> supperAt(0), (x, v) -> x.sup() * 0 + x.count(1), 0, 1);
        EDGES.taken("sup() at 998", () -> supperAt(998), (x, v) -> x.sup(), 0, 65);
        EDGES.taken("SUPPER then", () -> supperAt(998), (x, v) -> x.sup() * 0 + x.count(1), 0, 999);
        EDGES.still("sup() at 999", () -> supperAt(999), (x, v) -> x.sup(), 0, -100000);
        SoupByRank x = Made.none();
        DUE.is("sup() of nobody", x.sup(), 0);
        DUE.is("SUPPER then", x.count(1), 1);
        x = Made.tooMany();
        x.put(0, 1, 5);
        x.put(1, 1, 4);
        x.put(2, 1, 6);
        x.put(4, 1, 10);
        DUE.is("sup() where one never begins", x.sup(), 20);
        int[] moods = {0, 0, 1, 495, 0};
        for (int p = 0; p < 5; p++) {
            DUE.is("MOOD of " + p, x.told(p, 1), moods[p]);
        }
        x.put(4, 1, 11);
        x.sup();
        DUE.is("MOOD of who never begins", x.told(4, 1), 1);
        x.sup();
        DUE.is("MOOD of who never begins, 0 at least", x.told(4, 1), 0);
        x = Due.court(59, 9, 59, 8, 59, 7);
        x.put(0, 1, 990);
        x.put(1, 1, 991);
        x.put(2, 1, 989);
        DUE.is("sup() of LOVERS", x.sup(), -27);
        int[] lovers = {999, 999, 998};
        for (int p = 0; p < 3; p++) {
            DUE.is("MOOD of LOVER " + p, x.told(p, 1), lovers[p]);
        }
    }

    private static void promise13Run() {
        EDGES.within("run(p)", Made::some, (x, v) -> x.run(v, 1, 1), 0, 31, 2, 25, -100000);
        EDGES.within("run(what)", Made::some, (x, v) -> x.run(0, 1, v), 0, 449, 2, 65, -100000);
        EDGES.within("run(n), MOOD", Made::two, (x, v) -> x.run(0, v, 0), 0, 500, 20, 0, -100000);
        EDGES.within("run(n), less", Made::two, (x, v) -> x.run(0, v, 1), 0, 0, 20, 800, -100000);
        EDGES.within("run(n), MINDS", Made::two, (x, v) -> x.run(0, v, 2), 0, 0, 20, 2160, -100000);
        EDGES.still("run, nobody there", Made::none, (x, v) -> x.run(v, 0, 2), 0, -100000);
        EDGES.still("run at SUPPER 999", () -> supperAt(999), (x, v) -> x.run(0, v, 2), 1, 65);
        EDGES.still("MOOD by 12", Made::two, (x, v) -> x.run(0, v, 0), 12, 20);
        EDGES.still("MOOD by 13, 0 at least", Made::two, (x, v) -> x.run(0, v, 0), 13, 0);
        EDGES.still("less by 13, no bound", Made::two, (x, v) -> x.run(0, v, 1), 13, 520);
        EDGES.still("who never begins, 10 each", Made::tooMany, (x, v) -> x.run(4, v, 1), 20, 200);
        EDGES.still("MOOD of a LOVER", () -> Due.court(59, 1), (x, v) -> x.run(0, v, 0), 20, 680);
        EDGES.still("less of a LOVER", () -> Due.court(59, 1), (x, v) -> x.run(0, v, 1), 20, -180);
        EDGES.still("a LOVER's, 999 at most", () -> loverOf(990), (x, v) -> x.run(0, v, 0), 2, 999);
        EDGES.still("a LOVER's, no bound", () -> loverOf(990), (x, v) -> x.run(0, v, 1), 2, -18);
    }

    private static SoupByRank loverOf(int mood) {
        SoupByRank x = Due.court(59, 1);
        x.put(0, 1, mood);
        return x;
    }

    // ---- what is best: of the two, the EARL first is better; from 50 to 56 they mind 6 together

    private static void promises14To18() {
        EDGES.within("cook(what)", Made::two, SoupByRank::cook, 0, 50, 1, 6, -100000);
        EDGES.within("raise(what)", Made::two, SoupByRank::raise, 0, 1, 1, 106, -100000);
        EDGES.within("exile(what)", Made::two, SoupByRank::exile, 0, 1, 1, 40, -100000);
        EDGES.within("seat(what)", Made::two, (x, v) -> x.seat(0, v), 0, 0, 1, 26, -7000);
        EDGES.within("seat(p)", Made::two, (x, v) -> x.seat(v, 1), 0, 26, 1, 68, -5000);
        EDGES.within("order(what)", Made::two, SoupByRank::order, 0, 21, 1, 106, -100000);
        EDGES.within("cook(what) of nobody", Made::none, SoupByRank::cook, 0, 0, 1, 0, -100000);
        EDGES.within("raise(what) of nobody", Made::none, SoupByRank::raise, 0, -1, 1, 0, -100000);
        EDGES.within("exile(what) of nobody", Made::none, SoupByRank::exile, 0, -1, 1, 0, -100000);
        EDGES.within("order(what) of nobody", Made::none, SoupByRank::order, 0, 0, 1, 0, -100000);
        EDGES.still("seat of nobody", Made::none, (x, v) -> x.seat(v, 0), 0, -5000);
        EDGES.still("seat of the seventh", Made::full, (x, v) -> x.seat(v, 0), 6, -5000);
    }

    private static void promise19Mean() {
        EDGES.within("mean(part)", Made::two, SoupByRank::mean, 0, 87, 1, 1, NO);
        for (int part = -1; part < 3; part++) {
            EDGES.still("mean of nobody", Made::none, SoupByRank::mean, part, NO);
        }
        EDGES.still("mean of those who begin", Made::tooMany, SoupByRank::mean, 0, 90);
        EDGES.still("by how many they are", Made::some, SoupByRank::mean, 0, 73);
        EDGES.still("by how many they are", Made::some, SoupByRank::mean, 1, 1);
    }

    // ---- told suppers

    private static void promises20To25() {
        EDGES.within("judge(s)", Made::two, SoupByRank::judge, 0, -1, 3, -1, -2);
        EDGES.within("kinds(s)", Made::two, (x, v) -> x.kinds(v, 0, 0), 0, 7, 3, 7, -2);
        EDGES.within("kinds(p)", Made::two, (x, v) -> x.kinds(0, v, 0), 0, 7, 1, 63, -5);
        EDGES.within("kinds(sort)", Made::two, (x, v) -> x.kinds(0, 0, v), 0, 7, 1, 1023, -7);
        EDGES.within("ranks(s)", Made::two, (x, v) -> x.ranks(v, 0, 0), 0, 92, 3, 92, -2);
        EDGES.within("ranks(p)", Made::two, (x, v) -> x.ranks(0, v, 0), 0, 92, 1, 10, -5);
        EDGES.within("ranks(what)", Made::two, (x, v) -> x.ranks(0, 0, v), 0, 92, 1, 8, -7);
        EDGES.within("heats(s)", Made::two, (x, v) -> x.heats(v, 1), 0, 90, 3, 90, -2);
        EDGES.within("heats(what)", Made::two, (x, v) -> x.heats(0, v), 0, 1, 1, 90, -7);
        EDGES.within("laws(s)", Made::two, SoupByRank::laws, 0, 1, 3, 1, -2);
        EDGES.still("laws, the last of two", () -> told(Made.tooMany(), 90, 90, 90, 90, -1), SoupByRank::laws, 0, 2);
        EDGES.still("laws, the first of two", () -> told(Made.tooMany(), 90, 84, 78, 72, 66), SoupByRank::laws, 0, 1);
        EDGES.still("laws, both", () -> told(Made.tooMany(), 90), SoupByRank::laws, 0, 3);
        EDGES.within("film(s)", Made::two, SoupByRank::film, 0, 2, 3, 2, -2);
        // sheet 1 tells of three, 2 is missing
        for (int s = 1; s < 3; s++) {
            int refusal = s == 1 ? -2 : -11;
            EDGES.still("judge", Made::two, SoupByRank::judge, s, refusal);
            EDGES.still("kinds", Made::two, (x, v) -> x.kinds(v, 0, 0), s, refusal);
            EDGES.still("ranks", Made::two, (x, v) -> x.ranks(v, 0, 0), s, refusal);
            EDGES.still("heats", Made::two, (x, v) -> x.heats(v, 0), s, refusal);
            EDGES.still("laws", Made::two, SoupByRank::laws, s, refusal);
            EDGES.taken("film", Made::two, SoupByRank::film, s, 2);
            EDGES.taken("it is as told then", Made::two, (x, v) -> x.film(v) * 0 + x.judge(v), s, -1);
        }
    }

    private static SoupByRank told(SoupByRank x, int... cells) {
        Made.fill(x, 0, 2, cells);
        return x;
    }

    /** A sheet tells of nobody, of all, of one more; of nobody, of who never gets it. */
    private static void sheetsOfNoneAndAll() {
        EDGES.still("of nobody there, nobody told", () -> told(Made.none()), SoupByRank::judge, 0, -1);
        EDGES.still("of nobody there, one told", () -> told(Made.none(), 90), SoupByRank::judge, 0, -2);
        EDGES.still("of nobody there: heats", () -> told(Made.none()), (x, v) -> x.heats(v, 0), 0, 100);
        EDGES.still("of nobody there: the least", () -> told(Made.none()), (x, v) -> x.heats(v, 1), 0, 0);
        EDGES.still("of nobody there: laws", () -> told(Made.none()), SoupByRank::laws, 0, 1);
        EDGES.still("of nobody there: kinds", () -> told(Made.none()), (x, v) -> x.kinds(0, v, 0), 0, -5);
        EDGES.still("of nobody there: ranks", () -> told(Made.none()), (x, v) -> x.ranks(0, v, 0), 0, -5);
        EDGES.still("nobody told: kinds", () -> told(Made.two()), (x, v) -> x.kinds(0, 0, v), 0, 63);
        EDGES.still("nobody told: MORE", () -> told(Made.two()), (x, v) -> x.kinds(0, 0, v), 1, 1023);
        EDGES.still("nobody told: ranks", () -> told(Made.two()), (x, v) -> x.ranks(0, 0, v), 0, 100);
        EDGES.still("nobody told: the least", () -> told(Made.two()), (x, v) -> x.ranks(0, 0, v), 1, 0);
        EDGES.still("nobody told: laws, of all six", () -> told(Made.full()), SoupByRank::laws, 0, 63);
        for (int many = 0; many <= 6; many++) {
            int there = many;
            Edges.Maker more = () -> told(same(there), new int[there + 1]);
            EDGES.still("judge, one more than the " + many, more, SoupByRank::judge, 0, -2);
            EDGES.still("kinds, one more than the " + many, more, (x, v) -> x.kinds(v, 0, 0), 0, -2);
            EDGES.still("ranks, one more than the " + many, more, (x, v) -> x.ranks(v, 0, 0), 0, -2);
            EDGES.still("heats, one more than the " + many, more, (x, v) -> x.heats(v, 0), 0, -2);
            EDGES.still("laws, one more than the " + many, more, SoupByRank::laws, 0, -2);
        }
        EDGES.still("all six told", () -> told(same(6), 90, 84, 78, 72, 66, 60), SoupByRank::judge, 0, -1);
        EDGES.still("the sixth is otherwise", () -> told(same(6), 90, 84, 78, 72, 66, 61), SoupByRank::judge, 0, 5);
        EDGES.still("none fits: kinds", () -> told(same(2), 90, 91), (x, v) -> x.kinds(0, 0, v), 0, 0);
        EDGES.still("none fits: MORE", () -> told(same(2), 90, 91), (x, v) -> x.kinds(0, 0, v), 1, 0);
        EDGES.still("none fits: ranks", () -> told(same(2), 90, 91), (x, v) -> x.ranks(0, 0, v), 0, 0);
        EDGES.still("none fits: the least", () -> told(same(2), 90, 91), (x, v) -> x.ranks(0, 0, v), 1, -1);
        EDGES.still("none fits: heats", () -> told(same(2), 90, 91), (x, v) -> x.heats(0, v), 0, 0);
        EDGES.still("none fits: the least", () -> told(same(2), 90, 91), (x, v) -> x.heats(0, v), 1, -1);
        EDGES.still("none fits: laws", () -> told(same(2), 90, 91), SoupByRank::laws, 0, 0);
        EDGES.still("the least HEAT", () -> told(same(1), 0), (x, v) -> x.heats(0, v), 1, 0);
        EDGES.still("the greatest HEAT", () -> told(same(1), 99), (x, v) -> x.heats(0, v), 1, 99);
        EDGES.still("no HEAT", () -> told(same(1), 100), (x, v) -> x.heats(0, v), 1, -1);
        EDGES.still("never, of who begins", () -> told(same(1), -1), (x, v) -> x.heats(0, v), 0, 0);
        EDGES.still("never, of who never begins", () -> told(Made.tooMany(), 90, 90, 90, 90, -1),
                SoupByRank::judge, 0, -1);
        EDGES.still("0, of who never begins", () -> told(Made.tooMany(), 90, 90, 90, 90, 0), SoupByRank::judge, 0, 4);
    }

    /** COURTIERS of one rank: one behind the other by their numbers. */
    private static SoupByRank same(int many) {
        SoupByRank x = Made.none();
        for (int p = 0; p < many && p < 6; p++) {
            x.courtier(0, 7);
        }
        return x;
    }

    private static void promise25Film() {
        EDGES.taken("film of nobody", Made::none, SoupByRank::film, 0, 0);
        EDGES.taken("a row of none", Made::none, (x, v) -> x.film(v) * 0 + x.cell(v, 0, 1), 0, -12);
        EDGES.taken("film of all six", Made::full, SoupByRank::film, 3, 6);
        EDGES.taken("its last place", Made::full, (x, v) -> x.film(3) * 0 + x.cell(3, v, 1), 5, 1);
        EDGES.taken("behind its last place", Made::full, (x, v) -> x.film(3) * 0 + x.cell(3, v, 1), 6, -12);
        EDGES.taken("it is of bytes", Made::two, (x, v) -> x.film(1) * 0 + x.courtBy(1, v, 0, 0), 0, 0);
        EDGES.taken("not of shorts", Made::two, (x, v) -> x.film(1) * 0 + x.courtBy(1, v, 0, 0), 1, -13);
        EDGES.taken("nor of ints", Made::two, (x, v) -> x.film(1) * 0 + x.courtBy(1, v, 0, 0), 2, -13);
        SoupByRank x = Made.tooMany();
        DUE.is("film where one never begins", x.film(2), 5);
        DUE.is("tells so", x.judge(2), -1);
        x.force(0);
        DUE.is("and else is otherwise", x.judge(2), 1);
    }

    // ---- ranks by lots: by SEED 0 the ranks are 71 and 94, by 99999 6 and 59

    private static void promise26Drawn() {
        EDGES.within("drawn(seed)", Made::two, (x, v) -> x.drawn(v, 0), 0, 106, 99999, 106, -100000);
        EDGES.within("drawn(what)", Made::two, (x, v) -> x.drawn(0, v), 0, 106, 1, 0, -100000);
        EDGES.within("drawn(seed) of nobody", Made::none, (x, v) -> x.drawn(v, 1), 0, -1, 99999, -1, -100000);
        EDGES.within("drawn(what) of nobody", Made::none, (x, v) -> x.drawn(0, v), 0, 0, 1, -1, -100000);
    }

    private static SoupByRank likesRank() {
        return Due.under(Due.court(0, 0), "cools 0;waits 0;likes rank;");
    }

    private static void promise27Odds() {
        EDGES.within("odds(seed)", Made::two, (x, v) -> x.odds(v, 1, 106, 0), 0, 1, 99999, 1, NO);
        EDGES.within("odds(seeds)", Made::none, (x, v) -> x.odds(0, v, -1, 1), 1, 1, 40, 1, NO);
        EDGES.within("odds(most)", Made::two, (x, v) -> x.odds(0, 1, v, 0), -999, 0, 9999, 1, NO);
        EDGES.within("odds(part)", Made::two, (x, v) -> x.odds(0, 40, 107, v), 0, 9, 1, 20, NO);
        EDGES.still("just as much", Made::two, (x, v) -> x.odds(0, 1, v, 0), 106, 1);
        EDGES.still("1 less", Made::two, (x, v) -> x.odds(0, 1, v, 0), 105, 0);
        EDGES.still("none of 40, in lowest terms", Made::two, (x, v) -> x.odds(0, 40, v, 1), 105, 1);
        EDGES.still("all of 40, in lowest terms", Made::two, (x, v) -> x.odds(0, 40, v, 1), 108, 1);
        EDGES.still("seeds pass 99999", Made::two, (x, v) -> x.odds(99999, 40, 107, v), 0, 17);
        EDGES.still("seeds pass 99999", Made::two, (x, v) -> x.odds(99999, 40, 107, v), 1, 40);
        // by the last SEED, 100038, the RANK is 75: of all 40 it is the tenth by which one minds 15 or less
        EDGES.still("10 of 40", CallEdgesTest::likesRank, (x, v) -> x.odds(99999, 40, 15, v), 0, 1);
        EDGES.still("10 of 40", CallEdgesTest::likesRank, (x, v) -> x.odds(99999, 40, 15, v), 1, 4);
        EDGES.still("9 of 39", CallEdgesTest::likesRank, (x, v) -> x.odds(99999, 39, 15, v), 0, 3);
        EDGES.still("9 of 39", CallEdgesTest::likesRank, (x, v) -> x.odds(99999, 39, 15, v), 1, 13);
        EDGES.still("9 of 40", CallEdgesTest::likesRank, (x, v) -> x.odds(99999, 40, 14, v), 1, 40);
    }

    private static void promises28And29() {
        EDGES.still("no IMAGE", Made::two, (x, v) -> x.back(), 0, -3);
        EDGES.taken("an IMAGE of nobody", Made::none, (x, v) -> x.image(), 0, 0);
        EDGES.taken("an IMAGE of six", Made::full, (x, v) -> x.image(), 0, 6);
        EDGES.taken("back() from six", Made::full, (x, v) -> x.back(), 0, 2);
        EDGES.taken("there is room then", Made::full, (x, v) -> x.back() * 0 + x.courtier(0, v), 0, 2);
        EDGES.taken("those that came are none", Made::full, (x, v) -> x.back() * 0 + x.told(v, 0), 2, -5000);
        SoupByRank x = Made.none();
        x.image();
        for (int p = 0; p < 6; p++) {
            x.courtier(0, p);
        }
        DUE.is("back() to nobody", x.back(), 0);
        DUE.is("again", x.back(), 0);
        DUE.is("the first one comes", x.courtier(59, 1), 0);
        DUE.is("an IMAGE anew", x.image(), 1);
        x.courtier(0, 0);
        DUE.is("back() to the new one", x.back(), 1);
        DUE.is("its KIND", x.told(0, 2), 5);
    }

    // ---- the host

    private static void promise30Sheet() {
        EDGES.within("sheet(s)", Made::some, (x, v) -> x.sheet(v, 0, 1), 0, 1, 3, 1, -2);
        EDGES.within("sheet(sort)", Made::some, (x, v) -> x.sheet(0, v, 1), -1, 1, 2, 1, -2);
        EDGES.below("sheet(n)", Made::some, (x, v) -> x.sheet(0, 0, v), 0, 1, -14);
        EDGES.above("sheet(n)", Made::some, (x, v) -> x.sheet(0, 2, v), 40, 1, -2);
        for (int n : new int[] {Integer.MIN_VALUE, -1, 0, 40, 41, Integer.MAX_VALUE}) {
            EDGES.taken("missing", Made::some, (x, v) -> x.sheet(0, -1, v), n, 1);
            EDGES.taken("it is missing", Made::some, (x, v) -> x.sheet(0, -1, v) * 0 + x.judge(0), n, -11);
            EDGES.taken("it stays missing", Made::some, (x, v) -> x.sheet(3, -1, v) * 0 + x.judge(3), n, -11);
        }
        EDGES.taken("its last place", Made::some, (x, v) -> x.sheet(0, 1, 40) * 0 + x.cell(0, v, 1), 39, 1);
        EDGES.taken("behind it", Made::some, (x, v) -> x.sheet(0, 1, 40) * 0 + x.cell(0, v, 1), 40, -12);
        EDGES.taken("a row of none", Made::some, (x, v) -> x.sheet(0, 1, 0) * 0 + x.cell(0, v, 1), 0, -12);
        for (int sort = 0; sort < 3; sort++) {
            SoupByRank x = Due.court(0, 9);
            x.brings(1, 0);
            Made.fill(x, 0, sort, 7, 7);
            x.sheet(0, sort, 1);
            DUE.is("all 0, sort " + sort, x.judge(0), -1);
        }
    }

    /** What a cell of a sort makes of v: seen by one who gets it so hot, or by one who never does. */
    private static void holds(int sort, int v, int held) {
        SoupByRank x = held < 0 ? Made.tooMany() : Due.court(0, 9);
        if (held < 0) {
            Made.fill(x, 0, sort, 90, 90, 90, 90, v);
        } else {
            x.brings(1, held);
            Made.fill(x, 0, sort, v);
        }
        DUE.is("sort " + sort + " makes " + held + " of " + v, x.judge(0), -1);
    }

    private static void holdsNot(int sort, int v, int other) {
        SoupByRank x = held(sort, v);
        x.brings(1, Math.max(0, other));
        DUE.is("sort " + sort + " makes not " + other + " of " + v, x.judge(0), 0);
    }

    private static SoupByRank held(int sort, int v) {
        SoupByRank x = Due.court(0, 9);
        Made.fill(x, 0, sort, v);
        return x;
    }

    private static void lowestBits() {
        for (int sort = 0; sort < 3; sort++) {
            for (int v : new int[] {-1, 0, 1, 99}) {
                holds(sort, v, v);
            }
        }
        for (int v : new int[] {255, 511, -257, 65535, Integer.MAX_VALUE}) {
            holds(0, v, -1);
        }
        for (int v : new int[] {256, -256, 65536, Integer.MIN_VALUE}) {
            holds(0, v, 0);
        }
        for (int v : new int[] {65535, 131071, -65537, Integer.MAX_VALUE}) {
            holds(1, v, -1);
        }
        for (int v : new int[] {65536, -65536, Integer.MIN_VALUE}) {
            holds(1, v, 0);
        }
        holds(0, 256 + 99, 99);
        holds(0, 99 - 256, 99);
        holds(1, 65536 + 99, 99);
        holds(1, 99 - 65536, 99);
        holdsNot(1, 256, 0);
        holdsNot(1, 256 + 99, 99);
        holdsNot(2, 65536, 0);
        holdsNot(2, 256, 0);
        holdsNot(2, 65536 + 99, 99);
        holdsNot(2, Integer.MIN_VALUE, 0);
    }

    private static void promise31Cell() {
        EDGES.within("cell(s)", Made::full, (x, v) -> x.cell(v, 0, 1), 0, 1, 3, 1, -2);
        EDGES.within("cell(i)", Made::some, (x, v) -> x.cell(2, v, 1), 0, 1, 2, 1, -12);
        EDGES.within("cell(i) of 40", Made::full, (x, v) -> x.cell(2, v, 1), 0, 1, 39, 1, -12);
        EDGES.still("a missing one", Made::some, (x, v) -> x.cell(3, v, 1), 0, -11);
        for (int v : new int[] {Integer.MIN_VALUE, -1, 0, Integer.MAX_VALUE}) {
            EDGES.taken("any number", Made::some, (x, w) -> x.cell(0, 0, w), v, 1);
        }
    }

    private static void promise32Copy() {
        EDGES.within("copy(s)", Made::full, (x, v) -> x.copy(v, 0, v, 0, 1), 0, 1, 3, 1, -2);
        EDGES.within("copy(other)", Made::full, (x, v) -> x.copy(0, 0, v, 0, 1), 0, 1, 3, 1, -2);
        EDGES.within("copy(i), of 6", Made::some, (x, v) -> x.copy(0, v, 0, 0, 2), 0, 2, 4, 2, -12);
        EDGES.within("copy(j), of 6", Made::some, (x, v) -> x.copy(0, 0, 0, v, 2), 0, 2, 4, 2, -12);
        EDGES.within("copy(n), of 6", Made::some, (x, v) -> x.copy(0, 0, 0, 0, v), 0, 0, 6, 6, -12);
        EDGES.within("copy(i) of none", Made::some, (x, v) -> x.copy(0, v, 0, 0, 0), 0, 0, 6, 0, -12);
        EDGES.within("copy(j) of none", Made::some, (x, v) -> x.copy(0, 0, 0, v, 0), 0, 0, 6, 0, -12);
        EDGES.within("copy(n), of 40", Made::full, (x, v) -> x.copy(0, 0, 0, 0, v), 0, 0, 40, 40, -12);
        // i + n, j + n wrap around to less than nothing, or to just what is there
        for (int i : new int[] {1, 6, Integer.MAX_VALUE}) {
            EDGES.still("i + n wraps", Made::some, (x, v) -> x.copy(0, v, 0, 0, Integer.MAX_VALUE), i, -12);
            EDGES.still("j + n wraps", Made::some, (x, v) -> x.copy(0, 0, 0, v, Integer.MAX_VALUE), i, -12);
            EDGES.still("i + n wraps", Made::some, (x, v) -> x.copy(0, Integer.MAX_VALUE, 0, 0, v), i, -12);
            EDGES.still("j + n wraps", Made::some, (x, v) -> x.copy(0, 0, 0, Integer.MAX_VALUE, v), i, -12);
        }
        EDGES.still("n and i from far below", Made::some, (x, v) -> x.copy(0, v, 0, 0, v), Integer.MIN_VALUE, -12);
        EDGES.still("unlike sorts", Made::some, (x, v) -> x.copy(0, 0, v, 0, 0), 1, -13);
        EDGES.still("unlike sorts", Made::some, (x, v) -> x.copy(v, 0, 1, 0, 0), 2, -13);
        EDGES.still("from a missing one", Made::some, (x, v) -> x.copy(v, 0, 0, 0, 0), 3, -11);
        EDGES.still("to a missing one", Made::some, (x, v) -> x.copy(0, 0, v, 0, 0), 3, -11);
        EDGES.still("all on itself", Made::full, (x, v) -> x.copy(v, 0, v, 0, 40), 2, 40);
    }

    private static void promise33CourtBy() {
        EDGES.within("courtBy(s)", Made::full, (x, v) -> x.courtBy(v, Math.floorMod(v, 3), 0, 1), 0, 0, 3, 0, -2);
        EDGES.within("courtBy(sort), missing", Made::some, (x, v) -> x.courtBy(3, v, 0, 1), 0, -11, 2, -11, -2);
        EDGES.within("courtBy(sort), shorts", Made::some, (x, v) -> x.courtBy(1, v, 0, 1), 0, -13, 2, -13, -2);
        EDGES.within("courtBy(n), no room", Made::full, (x, v) -> x.courtBy(0, 0, 0, v), 0, 0, 6, 0, -2);
        EDGES.within("courtBy(n), all room", CallEdgesTest::sixTold, (x, v) -> x.courtBy(0, 0, 0, v), 0, 0, 6, 6, -2);
        EDGES.within("courtBy(from), of 6", Made::some, (x, v) -> x.courtBy(0, 0, v, 1), 0, 1, 4, 1, -12);
        EDGES.within("courtBy(from), of 12", CallEdgesTest::sixTold, (x, v) -> x.courtBy(0, 0, v, 1), 0, 1, 10, 1, -12);
        for (int n = 1; n <= 6; n++) {
            int many = n;
            for (int from : new int[] {-1, -2 * n, Integer.MIN_VALUE, Integer.MAX_VALUE, Integer.MAX_VALUE - 1, 6, 7}) {
                EDGES.still("courtBy " + n + " from", Made::some, (x, v) -> x.courtBy(0, 0, v, many), from, -12);
            }
        }
        // three pairs, room for three: of the second, no KIND is 60, of the third no RANK is 100
        comes("all", 3, 3, 14, 40, 25, 50, 36, 60);
        comes("half a pair behind", -12, 3, 14, 40, 25, 50, 36, 60, 5);
        comes("no pair behind", -12, 3, 14, 40, 25, 50, 36, 60);
        comes("the second is left out", 2, 2, 14, 40, 60, 50, 36, 60);
        comes("the third is left out", 2, 2, 14, 40, 25, 50, 36, 100);
        comes("less than 0 is left out", 1, 1, 14, 40, -1, 50, 36, -1);
        comes("there is room for three", 3, 3, 14, 40, 25, 50, 36, 60, 1, 1, 2, 2);
        comes("no room, then no place", -12, 3, 14, 40, 25, 50, 36, 60, 1, 1);
        comes("none, all left out", 0, 0, 60, 0, 0, 100, 60, 100);
    }

    private static SoupByRank sixTold() {
        SoupByRank x = Made.none();
        Made.fill(x, 0, 0, 0, 0, 59, 99, 10, 1, 20, 2, 30, 3, 40, 4);
        return x;
    }

    /** As many pairs as stand there, but one more where -12 is due. */
    private static void comes(String what, int due, int came, int... cells) {
        for (int sort = 0; sort < 3; sort++) {
            SoupByRank x = Made.some();
            Made.fill(x, 3, sort, cells);
            int n = cells.length / 2 + (due == -12 ? 1 : 0);
            DUE.is(what + ", sort " + sort, x.courtBy(3, sort, 0, n), due);
            DUE.is(what + ": how many came", x.count(0), 3 + came);
            DUE.is(what + ": the first of them", x.told(3, 0), came > 0 ? 40 : -5000);
        }
    }

    private static void promise34Taken() {
        EDGES.within("taken(kind)", Made::some, (x, v) -> x.taken(0, v), 0, 0, 6, -13, -2);
        EDGES.within("taken(kind) of a MOOD", Made::some, (x, v) -> x.taken(6, v), 0, -13, 6, 480, -2);
        EDGES.within("taken(i), six there", Made::full, (x, v) -> x.taken(v, v < 6 ? 0 : 6), 0, 0, 11, 500, -12);
        EDGES.within("taken(i), nobody there", Made::none, (x, v) -> x.taken(v, 0), 0, -11, 11, -11, -12);
        EDGES.still("the last one there", Made::some, (x, v) -> x.taken(v, 0), 2, 2);
        EDGES.still("the first one not there", Made::some, (x, v) -> x.taken(v, 0), 3, -11);
        EDGES.still("the last COURTIER's place", Made::full, (x, v) -> x.taken(v, 0), 5, 5);
        EDGES.still("the first MOOD's place", Made::full, (x, v) -> x.taken(v, 0), 6, -13);
        EDGES.still("the last MOOD there", Made::some, (x, v) -> x.taken(v, 6), 8, 0);
        EDGES.still("the first MOOD not there", Made::some, (x, v) -> x.taken(v, 6), 9, -11);
    }

    public static void main(String[] args) {
        promise1NothingThere();
        promise2Count();
        promise3Brings();
        promise4Feed();
        promise5Text();
        promise6Force();
        promise7Asks();
        promise8Courtier();
        promise9Put();
        promise10Told();
        promise11Table();
        promise12Sup();
        promise13Run();
        promises14To18();
        promise19Mean();
        promises20To25();
        sheetsOfNoneAndAll();
        promise25Film();
        promise26Drawn();
        promise27Odds();
        promises28And29();
        promise30Sheet();
        promise31Cell();
        lowestBits();
        promise32Copy();
        promise33CourtBy();
        promise34Taken();
        DUE.end();
    }
}
