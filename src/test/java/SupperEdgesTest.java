/** The terms of the court and of A SUPPER at their edges: kinds, who is better, minutes, cooling; of like ones. */
public final class SupperEdgesTest {
    private static final Due DUE = new Due("SupperEdgesTest");
    private static final int COURTIER = 0, EARL = 10, CHAPLAIN = 20, KING = 30, VISCOUNT = 40, LOVER = 50;

    private static SoupByRank at(int supper, int heat, SoupByRank x) {
        x.brings(0, supper);
        x.brings(1, heat);
        return x;
    }

    // ---- kinds

    /** How long one keeps the next one waiting, seen by when that one begins. */
    private static void waits(int kindMore, int says, int hot, int supper, int due) {
        SoupByRank x = at(supper, hot, Due.under(Due.court(kindMore, 9, 0, 8), "cools 0;waits " + says + ";likes 50;"));
        DUE.is(kindMore + " waits " + says + " at " + hot + ", SUPPER " + supper, x.told(1, 5), due);
    }

    private static void waiting() {
        for (int says : new int[] {0, 1, 19, 20}) {
            waits(COURTIER + 9, says, 99, 0, says);
            waits(CHAPLAIN + 9, says, 99, 0, says);
            waits(EARL, says, 99, 0, says);
            waits(EARL + 9, says, 60, 0, says);
            waits(EARL + 9, says, 0, 0, says);
            waits(EARL + 9, says, 61, 0, says + 9);
            waits(EARL + 1, says, 99, 0, says + 1);
            waits(LOVER + 9, says, 99, 0, 0);
            waits(LOVER, says, 0, 1, 0);
        }
        waits(COURTIER, 21, 90, 0, 20);
        waits(EARL + 9, 21, 90, 0, 29);
        waits(KING, 0, 90, 0, 0);
        waits(KING, 1, 90, 0, 0);
        waits(KING, 2, 90, 0, 1);
        waits(KING, 3, 90, 0, 1);
        waits(KING, 20, 90, 0, 10);
        waits(KING + 9, 20, 60, 0, 10);
        waits(KING + 9, 20, 61, 0, 14);
        waits(KING + 9, 19, 61, 0, 14);
        waits(KING + 9, 0, 61, 0, 4);
        waits(KING + 1, 0, 61, 0, 0);
        waits(KING + 2, 0, 61, 0, 1);
        for (int supper : new int[] {0, 4, 8, 992, 996}) {
            waits(VISCOUNT, 7, 90, supper, 0);
            waits(VISCOUNT + 9, 7, 90, supper, 9);
            waits(VISCOUNT + 9, 7, 0, supper, 9);
        }
        for (int supper : new int[] {1, 2, 3, 5, 7, 9, 995, 997, 998, 999}) {
            waits(VISCOUNT, 7, 90, supper, 7);
            waits(VISCOUNT + 9, 7, 90, supper, 7);
        }
    }

    /** How hot one likes it: what one gets, less OFF. */
    private static void likes(int kindMore, int says, int due) {
        SoupByRank x = Due.under(Due.court(kindMore, 9), "cools 0;waits 0;likes " + (says < 0 ? "0" : "") + says + ";");
        DUE.is(kindMore + " likes " + says, x.told(0, 6) - x.told(0, 7), due);
    }

    private static void liking() {
        for (int says : new int[] {0, 1, 9, 98, 99}) {
            likes(COURTIER + 9, says, says);
            likes(EARL + 9, says, says);
            likes(LOVER + 9, says, says);
            likes(CHAPLAIN, says, says);
            likes(VISCOUNT, says, says);
            likes(KING + 9, says, 99 - says);
            likes(KING, says, 99 - says);
        }
        for (int kind : new int[] {CHAPLAIN, VISCOUNT}) {
            likes(kind + 9, 0, 0);
            likes(kind + 9, 8, 0);
            likes(kind + 9, 9, 0);
            likes(kind + 9, 10, 1);
            likes(kind + 9, 99, 90);
            likes(kind + 9, 9999, 90);
            likes(kind + 1, 0, 0);
            likes(kind + 1, 1, 0);
        }
        likes(COURTIER, 100, 99);
        likes(COURTIER, -1, 0);
        likes(KING, 100, 0);
        likes(KING, -1, 99);
    }

    /** How much one minds, where one likes it at 50 (a KING at 49, a CHAPLAIN at 50 less MORE). */
    private static void minds(int kindMore, int... offsAndDues) {
        SoupByRank x = Due.court(kindMore, 9);
        int kind = kindMore / 10 * 10;
        int liked = kind == KING ? 49 : kind == CHAPLAIN || kind == VISCOUNT ? 50 - kindMore % 10 : 50;
        for (int i = 0; i < offsAndDues.length; i += 2) {
            x.brings(1, liked + offsAndDues[i]);
            DUE.is(kindMore + " is OFF by " + offsAndDues[i], x.told(0, 7), offsAndDues[i]);
            DUE.is(kindMore + " MINDS OFF " + offsAndDues[i], x.told(0, 8), offsAndDues[i + 1]);
        }
    }

    private static void minding() {
        minds(COURTIER + 9, 0, 0, 1, 1, -1, 1, 49, 49, -50, 50);
        minds(EARL + 9, 0, 0, 1, 2, -1, 1, 2, 4, -2, 2, 49, 98, -50, 50);
        minds(KING + 9, 0, 0, 1, 2, -1, 1, 2, 4, -2, 2, 50, 100, -49, 49);
        minds(CHAPLAIN + 9, 0, 0, 1, 1, 2, 2, -1, 0, -2, 1, -3, 1, -4, 2, -41, 20);
        minds(VISCOUNT, 0, 0, 1, 1, -1, 0, -2, 1, -3, 1);
        minds(VISCOUNT + 5, 0, 0, 1, 0, 4, 0, 5, 0, 6, 1, -9, 0, -10, 0, -11, 0, -12, 1, -13, 1, -14, 2);
        minds(VISCOUNT + 9, 9, 0, 10, 1, -18, 0, -19, 0, -20, 1);
        minds(LOVER, 0, 0, 1, 0, -1, 0, 49, 0, -50, 0);
        minds(LOVER + 9, 0, -9, 1, -9, -1, -9, 49, -9, -50, -9);
        SoupByRank x = at(0, 99, Due.under(Due.court(EARL, 9), "cools 0;waits 0;likes 0;"));
        DUE.is("OFF at most", x.told(0, 7), 99);
        DUE.is("MINDS at most", x.told(0, 8), 198);
        x = at(0, 0, Due.under(Due.court(COURTIER, 9), "cools 0;waits 0;likes 99;"));
        DUE.is("OFF at least", x.told(0, 7), -99);
        DUE.is("MINDS, too cold", x.told(0, 8), 99);
    }

    // ---- who is better

    private static void better() {
        for (int[] ranks : new int[][] {{99, 98, 0}, {1, 0, 0}, {99, 99, 0}, {0, 0, 0}, {98, 99, 1}, {0, 99, 1}}) {
            SoupByRank x = Due.court(0, ranks[0], 0, ranks[1]);
            DUE.is("DOWN of RANK " + ranks[0] + " by " + ranks[1], x.told(0, 4), ranks[2]);
            DUE.is("DOWN of the other one", x.told(1, 4), 1 - ranks[2]);
            DUE.is("who begins last", x.table(0), 1 - ranks[2]);
        }
        for (int rank : new int[] {0, 50, 99}) {
            SoupByRank x = Due.court(0, rank, 0, rank, 0, rank, 0, rank, 0, rank, 0, rank);
            for (int p = 0; p < 6; p++) {
                DUE.is("DOWN of " + p + ", all of RANK " + rank, x.told(p, 4), p);
                DUE.is("MINUTE of " + p + ", all of RANK " + rank, x.told(p, 5), 3 * p);
            }
        }
    }

    // ---- minutes

    private static void lastMinute() {
        // all wait for 20, the VISCOUNTS of SUPPER 0 for their MORE
        SoupByRank x = Due.under(Due.court(0, 9, 0, 8, 0, 7, VISCOUNT, 6, VISCOUNT + 1, 5, LOVER, 4),
                "cools 0;waits 20;likes 50;");
        int[] minutes = {0, 20, 40, 60, 60, -1};
        for (int p = 0; p < 6; p++) {
            DUE.is("MINUTE of " + p, x.told(p, 5), minutes[p]);
        }
        DUE.is("who never begins, at 61", x.table(3), 32);
        DUE.is("who begins last, at 60", x.table(0), 4);
        DUE.is("in MINUTE 60", x.table(1), 60);
        // 21, 41, 61: not one behind the one who would begin in 61, though a LOVER keeps nobody waiting
        x = Due.under(Due.court(EARL + 1, 9, 0, 8, 0, 7, LOVER, 6, LOVER, 5, 0, 4), "cools 0;waits 20;likes 50;");
        DUE.is("who never begins, behind 61", x.table(3), 8 + 16 + 32);
        DUE.is("who begins last, at 41", x.table(1), 41);
        DUE.is("MINDS of the three alone", x.table(2), 80 + 40 + 40);
        x = Due.under(Due.court(EARL + 9, 9, EARL + 9, 8, EARL + 9, 7, 0, 6), "cools 0;waits 20;likes 50;");
        DUE.is("29, 58, 87", x.table(3), 8);
        x = Due.under(Due.court(0, 9, 0, 8, 0, 7, 0, 6, 0, 5, 0, 4), "cools 0;waits 0;likes 50;");
        DUE.is("all at once", x.table(3), 0);
        DUE.is("all at once: the last", x.table(0), 5);
        DUE.is("all at once: MINUTE", x.table(1), 0);
        x = Due.under(Due.court(0, 9, 0, 8, 0, 7, 0, 6), "cools 0;waits 20-(minute=0);likes 50;");
        DUE.is("19, 39, 59", x.told(3, 5), 59);
        // what is told of MINUTE 59 cools the one of 60
        x = Due.under(Due.court(0, 9, 0, 8, 0, 7, 0, 6), "cools 7*(minute=59);waits 20;likes 50;");
        DUE.is("by MINUTE 59", x.told(3, 6), 83);
        x = Due.under(Due.court(0, 9, 0, 8, 0, 7, 0, 6), "cools 7*(minute=60);waits 20;likes 50;");
        DUE.is("by MINUTE 60 nobody", x.told(3, 6), 90);
        DUE.is("one alone, the last minute", Due.court(0, 9).table(1), 0);
    }

    private static void cooling() {
        for (int wait : new int[] {0, 1, 2, 19, 20}) {
            SoupByRank x = Due.under(Due.court(0, 9, 0, 8), "cools 1;waits " + wait + ";likes 50;");
            DUE.is("cools 1, " + wait + " times", x.told(1, 6), 90 - wait);
        }
        int[][] heats = {{99, 99, 0}, {99, 98, 1}, {98, 99, 0}, {0, 99, 0}, {0, 0, 0}, {1, 1, 0}, {99, 0, 99},
            {5, 100, 0}};
        for (int[] h : heats) {
            SoupByRank x = at(0, h[0], Due.under(Due.court(0, 9, 0, 8), "cools " + h[1] + ";waits 1;likes 50;"));
            DUE.is("from " + h[0] + " by " + h[1], x.told(1, 6), h[2]);
            DUE.is("the first gets it as brought", x.told(0, 6), h[0]);
        }
        SoupByRank x = at(0, 50, Due.under(Due.court(0, 9, 0, 8), "cools 0-9;waits 3;likes 50;"));
        DUE.is("it gets no hotter", x.told(1, 6), 50);
        // by heat, minute and down as they are then: 90, 80 (by heat 90), 79 (by minute 1), 76 (2), then 2 is down 1
        x = Due.under(Due.court(0, 9, 0, 8, 0, 7),
                "cools 10*(heat=90)+(minute=1)+3*(minute=2)+20*(down=1);waits 3;likes 50;");
        DUE.is("as it is then, the second", x.told(1, 6), 76);
        DUE.is("as it is then, the third", x.told(2, 6), 16);
        // of who began last, of those who begin at once
        x = Due.under(Due.court(LOVER, 9, LOVER, 8, 0, 7, 0, 6), "cools 1+down*10;waits 1;likes 50;");
        DUE.is("down of who began last", x.told(3, 6), 90 - 21);
        x = Due.under(Due.court(9, 99, 9, 98), "cools rank+mood+more;waits 20;likes 50;");
        DUE.is("cools has no rank, mood, more", x.told(1, 6), 90);
        DUE.is("waits and likes have", Due.under(Due.court(9, 99), "cools 0;waits 0;likes rank;").told(0, 7), 90 - 99);
    }

    // ---- of like ones

    private static SoupByRank six(String likes) {
        return Due.under(Due.court(0, 6, 1, 5, 2, 4, 3, 3, 4, 2, 5, 1), "cools 0;waits 0;likes " + likes + ";");
    }

    private static void best(String what, int gotBest, int gotLeast, int best, int least) {
        DUE.is(what, gotBest, best);
        DUE.is(what + ", these", gotLeast, least);
    }

    private static void likeOnes() {
        // the numbers are told by MORE: only if 4 and 5 change, or only if 0 and 1 do, all like it
        SoupByRank x = six("50+40*((more<4 and down=more)or(3<more and more+down=9))");
        best("raise, the last pair", x.raise(0), x.raise(1), 45, 0);
        x = six("50+40*((1<more and down=more)or(more<2 and more+down=1))");
        best("raise, the first pair", x.raise(0), x.raise(1), 1, 0);
        x = six("50+40*((down=more)=(more=0 or more=5))");
        best("raise, each of like ones", x.raise(0), x.raise(1), 12, 80);
        x = six("90");
        best("raise, as much is not less", x.raise(0), x.raise(1), -1, 0);
        best("exile, as much is not less", x.exile(0), x.exile(1), -1, 0);
        best("cook, all like one HEAT", x.cook(0), x.cook(1), 90, 0);
        best("order, all alike", x.order(0), x.order(1), 123456, 0);
        DUE.is("MINDS most, all alike", x.table(4), 0);
        x = six("90-50*(more=5)");
        best("exile, the last one", x.exile(0), x.exile(1), 5, 0);
        DUE.is("MINDS most, the last one", x.table(4), 5);
        x = six("90-50*(more=0)");
        best("exile, the first one", x.exile(0), x.exile(1), 0, 0);
        x = six("90-50*(3<more)");
        best("exile, the first of two", x.exile(0), x.exile(1), 4, 50);
        DUE.is("MINDS most, the first of two", x.table(4), 4);
        x = six("90-50*(down=more)");
        best("order, none as now", x.order(0), x.order(1), 214365, 0);
        x = six("50+40*(more+down=5)");
        best("order, the last one", x.order(0), x.order(1), 654321, 0);
        x = six("90-rank");
        best("order, by RANKS 6 to 1", x.order(0), x.order(1), 123456, 21);
        x = Due.under(Due.court(0, 60, 0, 50), "cools 0;waits 0;likes 90-rank;");
        best("order, by RANKS 2 and 1", x.order(0), x.order(1), 12, 3);
        x = Due.under(Due.court(0, 60), "cools 0;waits 0;likes 90-rank;");
        best("order, by RANK 1", x.order(0), x.order(1), 1, 1);
        for (int liked : new int[] {0, 1, 98, 99}) {
            x = Due.under(Due.court(0, 9), "cools 0;waits 0;likes " + liked + ";");
            best("cook, liked at " + liked, x.cook(0), x.cook(1), liked, 0);
            x = Due.under(Due.court(0, 9), "cools 0;waits 0;likes heat-5*(not rank=" + liked + ");");
            best("seat, liked by " + liked, x.seat(0, 0), x.seat(0, 1), liked, 0);
        }
        best("cook, all HEATS alike", Due.court(LOVER + 9, 9).cook(0), Due.court(LOVER + 9, 9).cook(1), 0, -9);
        best("seat, all RANKS alike", Due.court(LOVER + 9, 9).seat(0, 0), Due.court(LOVER + 9, 9).seat(0, 1), 0, -9);
        best("exile, a LOVER of 0", Due.court(LOVER, 9).exile(0), Due.court(LOVER, 9).exile(1), -1, 0);
        best("exile, a LOVER of 1", Due.court(LOVER + 1, 9).exile(0), Due.court(LOVER + 1, 9).exile(1), -1, -1);
        x = at(0, 51, Due.court(0, 9));
        best("exile, one who minds 1", x.exile(0), x.exile(1), 0, 0);
    }

    /** 4 never begins by RANKS up to 6, as 3 has RANK 6 and the lesser number; by others it minds OFF from 85. */
    private static void seatOfOneWhoNeverBegins() {
        int[][] heats = {{95, 0, 10}, {96, 0, 10}, {94, 7, 9}, {74, 0, 10}, {75, 0, 10}, {76, 7, 9}};
        for (int[] h : heats) {
            SoupByRank x = at(0, h[0], Made.tooMany());
            best("seat at " + h[0], x.seat(4, 0), x.seat(4, 1), h[1], h[2]);
        }
    }

    private static void mean() {
        int[][] heats = {{0, 0, 1}, {99, 99, 1}, {1, 1, 2}, {2, 3, 2}};
        for (int[] h : heats) {
            SoupByRank x = at(0, h[0], Due.under(Due.court(0, 9, 0, 8), "cools heat<3;waits 1;likes 0;"));
            DUE.is("mean of " + h[0] + ", above", x.mean(0), h[1]);
            DUE.is("mean of " + h[0] + ", below", x.mean(1), h[2]);
        }
        SoupByRank x = Due.under(Due.court(0, 9, 0, 9, 0, 9, 0, 9, 0, 9, 0, 9), "cools 1;waits 1;likes 0;");
        // 90 to 85 are 525, by 6: 175 by 2
        DUE.is("mean of six, above", x.mean(0), 175);
        DUE.is("mean of six, below", x.mean(1), 2);
    }

    public static void main(String[] args) {
        waiting();
        liking();
        minding();
        better();
        lastMinute();
        cooling();
        likeOnes();
        seatOfOneWhoNeverBegins();
        mean();
        DUE.end();
    }
}
