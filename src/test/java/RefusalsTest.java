import java.util.List;

/** Of several refusals the first one told; what is refused or only asked changes nothing, the rest what is told. */
public final class RefusalsTest {
    private static final Due DUE = new Due("RefusalsTest");
    private static final Edges EDGES = new Edges(DUE);
    private static final long NO = SoupByRank.NO;

    private interface Use {
        long of(SoupByRank x);
    }

    private static void still(String what, Edges.Maker of, Use use, long answer) {
        EDGES.still(what, of, (x, v) -> use.of(x), 0, answer);
    }

    // ---- of several the first one told

    private static void firstOfTheCourt() {
        still("feed: BAD, FULL", Made::full, x -> x.feed(0, 1, 1, 1, 1, 1), -2);
        still("feed: BAD, BAD, FULL", Made::full, x -> x.feed(6, 256, -1, 1, 1, 1), -2);
        still("text: FULL, the FAULT", RefusalsTest::fullWithFault, x -> x.text(), -4);
        still("courtier: BAD, FULL", Made::full, x -> x.courtier(60, 0), -2);
        still("courtier: BAD, BAD, FULL", Made::full, x -> x.courtier(-1, 100), -2);
        still("put: none such, what, v", Made::some, x -> x.put(3, 2, 1000), -5);
        still("put: none such, what", Made::some, x -> x.put(3, -1, 0), -5);
        still("put: none such, v", Made::some, x -> x.put(-1, 0, 100), -5);
        still("put: what, v", Made::some, x -> x.put(0, 2, 1000), -7);
        still("told: none such, what", Made::some, x -> x.told(3, 9), -5000);
        still("told: none such, what", Made::none, x -> x.told(0, -1), -5000);
        still("seat: none such, what", Made::some, x -> x.seat(3, 2), -5000);
        still("seat: none such, what", Made::none, x -> x.seat(-1, -1), -5000);
    }

    private static SoupByRank fullWithFault() {
        SoupByRank x = Made.tape(0);
        for (int t = 1; t < 6; t++) {
            Made.write(x, "cools 1;waits 2;likes 3;");
            x.text();
        }
        Made.write(x, "#");
        return x;
    }

    /** Sheet 0 tells of this supper, 1 of three, where two are there; 2 is missing. */
    private static void firstOfToldSuppers() {
        for (int p : new int[] {-1, 2}) {
            for (int sort : new int[] {-1, 2}) {
                still("kinds: SHEET, ..", Made::two, x -> x.kinds(4, p, sort), -2);
                still("kinds: missing, ..", Made::two, x -> x.kinds(2, p, sort), -11);
                still("kinds: of more, ..", Made::two, x -> x.kinds(1, p, sort), -2);
                still("kinds: none such, sort", Made::two, x -> x.kinds(0, p, sort), -5);
                still("kinds: sort", Made::two, x -> x.kinds(0, 1, sort), -7);
                still("ranks: SHEET, ..", Made::two, x -> x.ranks(-1, p, sort), -2);
                still("ranks: missing, ..", Made::two, x -> x.ranks(2, p, sort), -11);
                still("ranks: of more, ..", Made::two, x -> x.ranks(1, p, sort), -2);
                still("ranks: none such, what", Made::two, x -> x.ranks(0, p, sort), -5);
                still("ranks: what", Made::two, x -> x.ranks(0, 1, sort), -7);
                still("heats: SHEET, what", Made::two, x -> x.heats(4, sort), -2);
                still("heats: missing, what", Made::two, x -> x.heats(2, sort), -11);
                still("heats: of more, what", Made::two, x -> x.heats(1, sort), -2);
                still("heats: what", Made::two, x -> x.heats(0, sort), -7);
            }
        }
    }

    private static void firstOfTheHost() {
        still("sheet: SHEET, -14", Made::some, x -> x.sheet(4, 0, -1), -2);
        still("sheet: sort, -14", Made::some, x -> x.sheet(0, 3, -1), -2);
        still("sheet: sort, -14", Made::some, x -> x.sheet(0, -2, -1), -2);
        still("sheet: SHEET, missing", Made::some, x -> x.sheet(-1, -1, 0), -2);
        still("cell: SHEET, outside", Made::some, x -> x.cell(4, -1, 0), -2);
        still("cell: missing, outside", Made::some, x -> x.cell(3, -1, 0), -11);
        // 0 of six bytes, 1 of four shorts, 3 is missing
        for (int s : new int[] {-1, 4}) {
            still("copy: from no SHEET, ..", Made::some, x -> x.copy(s, -1, 3, -1, -1), -2);
            still("copy: to no SHEET, ..", Made::some, x -> x.copy(3, -1, s, -1, -1), -2);
        }
        still("copy: from a missing one, ..", Made::some, x -> x.copy(3, -1, 0, -1, -1), -11);
        still("copy: to a missing one, ..", Made::some, x -> x.copy(0, -1, 3, -1, -1), -11);
        still("copy: both are missing", Made::some, x -> x.copy(3, 0, 3, 0, 0), -11);
        still("copy: unlike sorts, outside", Made::some, x -> x.copy(0, -1, 1, -1, -1), -13);
        still("copy: outside", Made::some, x -> x.copy(0, 0, 0, 0, -1), -12);
        for (int n : new int[] {-1, 7}) {
            still("courtBy: SHEET, ..", Made::some, x -> x.courtBy(4, 3, -1, n), -2);
            still("courtBy: n, missing, ..", Made::some, x -> x.courtBy(3, 0, -1, n), -2);
            still("courtBy: n, of another sort, ..", Made::some, x -> x.courtBy(0, 1, -1, n), -2);
        }
        still("courtBy: sort, missing, ..", Made::some, x -> x.courtBy(3, 3, -1, 1), -2);
        still("courtBy: missing, outside", Made::some, x -> x.courtBy(3, 0, -1, 1), -11);
        still("courtBy: of another sort, outside", Made::some, x -> x.courtBy(0, 2, -1, 1), -13);
        still("courtBy: outside", Made::some, x -> x.courtBy(0, 0, -1, 1), -12);
        for (int kind : new int[] {-1, 7}) {
            still("taken: kind, outside", Made::none, x -> x.taken(12, kind), -2);
            still("taken: kind, none such", Made::none, x -> x.taken(0, kind), -2);
        }
        still("taken: outside", Made::none, x -> x.taken(12, 0), -12);
        still("taken: none such, of another KIND", Made::none, x -> x.taken(0, 6), -11);
        still("taken: none such, no MOOD", Made::none, x -> x.taken(6, 0), -11);
    }

    /** A -1 that is an answer comes behind the refusal of a number. */
    private static void behindRefusals() {
        for (int what : new int[] {-1, 9}) {
            still("table of nobody", Made::none, x -> x.table(what), -100000);
            still("raise of nobody", Made::none, x -> x.raise(what), -100000);
            still("exile of nobody", Made::none, x -> x.exile(what), -100000);
            still("drawn of nobody", Made::none, x -> x.drawn(0, what), -100000);
            still("told of who never begins", Made::tooMany, x -> x.told(4, what), -7000);
            still("mean of nobody", Made::none, x -> x.mean(what), NO);
        }
        still("drawn of nobody, no SEED", Made::none, x -> x.drawn(-1, 1), -100000);
        still("the least of none", RefusalsTest::otherwise, x -> x.ranks(0, 0, 1), -1);
        still("the least of none, what", RefusalsTest::otherwise, x -> x.ranks(0, 0, 2), -7);
        still("the least HEAT of none", RefusalsTest::otherwise, x -> x.heats(0, 1), -1);
        still("the least HEAT of none, what", RefusalsTest::otherwise, x -> x.heats(0, 2), -7);
    }

    private static SoupByRank otherwise() {
        SoupByRank x = Made.two();
        x.cell(0, 1, 99);
        return x;
    }

    // ---- what is asked changes nothing

    private static void asked() {
        List<Use> uses = List.of(x -> x.count(0), x -> x.asks(0, -1, 0, 0, 0), x -> x.asks(2, 1, 99, 60, 6),
                x -> x.told(0, 0), x -> x.told(1, 8), x -> x.table(0), x -> x.table(4), x -> x.run(1, 20, 0),
                x -> x.run(0, 1, 2), x -> x.cook(0), x -> x.raise(0), x -> x.exile(0), x -> x.seat(0, 0),
                x -> x.seat(1, 1), x -> x.order(0), x -> x.order(1), x -> x.mean(0), x -> x.judge(0), x -> x.judge(2),
                x -> x.kinds(2, 0, 0), x -> x.kinds(2, 0, 1), x -> x.ranks(2, 1, 0), x -> x.heats(2, 1),
                x -> x.laws(2), x -> x.drawn(7, 0), x -> x.drawn(99999, 1), x -> x.odds(0, 40, 50, 0),
                x -> x.taken(0, 0), x -> x.taken(6, 6), x -> x.copy(0, 0, 0, 0, 3), x -> x.courtBy(0, 0, 0, 0));
        for (int i = 0; i < uses.size(); i++) {
            for (Edges.Maker of : List.<Edges.Maker>of(Made::none, Made::some, Made::two, Made::tooMany, Made::full)) {
                Use use = uses.get(i);
                SoupByRank x = of.make();
                long answer = use.of(x);
                DUE.is("asked " + i + " again", use.of(x), answer);
                DUE.is("asked " + i + ": all stands as before", View.of(x).equals(View.of(of.make())) ? 1 : 0, 1);
            }
        }
    }

    // ---- what is done changes what is told, and that alone

    private static void seen(String what, Edges.Maker of, Use use) {
        SoupByRank x = of.make();
        use.of(x);
        DUE.is(what + " is seen", View.of(x).equals(View.of(of.make())) ? 1 : 0, 0);
    }

    /** Ahead of all that is held to stand as before: were it otherwise, it would be seen. */
    private static void changesAreSeen() {
        seen("SUPPER", Made::some, x -> x.brings(0, 6));
        seen("HEAT", Made::some, x -> x.brings(1, 78));
        seen("a byte", Made::some, x -> x.feed(1, ' ', 0, 0, 0, 0));
        seen("a text", Made::some, x -> x.text());
        seen("THE LAW", Made::some, x -> x.force(2));
        seen("a courtier", Made::some, x -> x.courtier(0, 0));
        for (int p = 0; p < 3; p++) {
            int who = p;
            seen("RANK of " + p, Made::some, x -> x.put(who, 0, 42));
            seen("MOOD of " + p, Made::some, x -> x.put(who, 1, 479));
        }
        seen("sup()", Made::some, x -> x.sup());
        seen("film", Made::some, x -> x.film(2));
        seen("an IMAGE", Made::some, x -> x.image());
        seen("back()", Made::some, x -> x.back());
        seen("a sheet", Made::some, x -> x.sheet(3, 0, 0));
        seen("a missing sheet", Made::some, x -> x.sheet(0, -1, 0));
        seen("another size", Made::some, x -> x.sheet(1, 1, 5));
        for (int i = 0; i < 6; i++) {
            int place = i;
            seen("cell " + i, Made::some, x -> x.cell(0, place, 37));
        }
        seen("copy", Made::some, x -> x.copy(0, 2, 0, 0, 1));
        seen("courtBy", Made::some, x -> x.courtBy(0, 0, 0, 1));
    }

    private static void done(String what, Edges.Maker of, Use use, Use undo) {
        SoupByRank x = of.make();
        use.of(x);
        undo.of(x);
        DUE.is(what + " and back: all stands as before", View.of(x).equals(View.of(of.make())) ? 1 : 0, 1);
    }

    private static void doneAndUndone() {
        for (Edges.Maker of : List.<Edges.Maker>of(Made::some, Made::full)) {
            SoupByRank y = of.make();
            done("SUPPER", of, x -> x.brings(0, 999), x -> x.brings(0, y.count(1)));
            done("HEAT", of, x -> x.brings(1, 0), x -> x.brings(1, y.count(2)));
            done("THE LAW", of, x -> x.force(0), x -> x.force(y.count(4)));
            done("RANK", of, x -> x.put(1, 0, 99), x -> x.put(1, 0, y.told(1, 0)));
            done("MOOD", of, x -> x.put(1, 1, 0), x -> x.put(1, 1, y.told(1, 1)));
            done("a cell", of, x -> x.cell(1, 0, 33), x -> x.cell(1, 0, first(y)));
        }
        done("sup()", Made::some, x -> x.sup(), RefusalsTest::unsup);
        done("an IMAGE of all", RefusalsTest::imaged, RefusalsTest::upset, x -> x.back());
        done("film", RefusalsTest::filmed, x -> x.film(0), x -> 0);
        done("courtBy, outside", RefusalsTest::imaged, x -> x.courtBy(0, 0, 2, 3), x -> x.back());
        done("a sheet", Made::some, x -> x.sheet(3, 2, 40), x -> x.sheet(3, -1, 0));
    }

    /** What stands in the first cell of sheet 1, of Made.some() or Made.full(). */
    private static int first(SoupByRank y) {
        return y.count(0) == 3 ? 1 : 15;
    }

    /** Of Made.some() a supper takes 31, 9 and 25; the last one's mood is 0 already. */
    private static long unsup(SoupByRank x) {
        DUE.is("MOOD of 0", x.put(0, 1, 480), 449);
        DUE.is("MOOD of 1", x.put(1, 1, 999), 990);
        DUE.is("MOOD of 2", x.put(2, 1, 0), 0);
        return x.brings(0, 5);
    }

    private static SoupByRank imaged() {
        SoupByRank x = Made.some();
        x.image();
        return x;
    }

    /** All that an image keeps. */
    private static long upset(SoupByRank x) {
        x.courtier(59, 99);
        x.put(0, 0, 1);
        x.put(0, 1, 2);
        x.put(1, 0, 3);
        x.put(2, 1, 4);
        x.brings(0, 9);
        x.brings(1, 9);
        x.force(2);
        x.sup();
        return x.courtier(0, 0);
    }

    private static SoupByRank filmed() {
        SoupByRank x = Made.some();
        x.film(0);
        return x;
    }

    public static void main(String[] args) {
        changesAreSeen();
        firstOfTheCourt();
        firstOfToldSuppers();
        firstOfTheHost();
        behindRefusals();
        asked();
        doneAndUndone();
        DUE.end();
    }
}
