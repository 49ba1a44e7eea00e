/** The terms of a supper, and promises 11 to 13. At first the law cools by 2, waits 3, likes 50; HEAT is 90. */
public final class SuppersTest {
    private static final Due DUE = new Due("SuppersTest");

    /** Minute, heat, off and minding of each, one behind the other. */
    private static void suppers(String what, SoupByRank x, int... due) {
        for (int p = 0; 4 * p < due.length; p++) {
            DUE.is(what + ": MINUTE of " + p, x.told(p, 5), due[4 * p]);
            DUE.is(what + ": GETS of " + p, x.told(p, 6), due[4 * p + 1]);
            DUE.is(what + ": OFF of " + p, x.told(p, 7), due[4 * p + 2]);
            DUE.is(what + ": MINDS of " + p, x.told(p, 8), due[4 * p + 3]);
        }
    }

    private static SoupByRank at(int heat, SoupByRank x) {
        x.brings(1, heat);
        return x;
    }

    private static void kinds() {
        suppers("COURTIER", Due.court(5, 9, 0, 1), 0, 90, 40, 40, 3, 84, 34, 34);
        suppers("COURTIER, cold", at(40, Due.court(5, 9, 0, 1)), 0, 40, -10, 10, 3, 34, -16, 16);
        suppers("EARL", Due.court(14, 9, 0, 1), 0, 90, 40, 80, 7, 76, 26, 26);
        suppers("EARL at 61", at(61, Due.court(14, 9, 0, 1)), 0, 61, 11, 22, 7, 47, -3, 3);
        suppers("EARL at 60", at(60, Due.court(14, 9, 0, 1)), 0, 60, 10, 20, 3, 54, 4, 4);
        suppers("EARL, 1 too hot", at(51, Due.court(14, 9)), 0, 51, 1, 2);
        suppers("EARL, just so", at(50, Due.court(14, 9)), 0, 50, 0, 0);
        suppers("EARL, cold", at(40, Due.court(14, 9)), 0, 40, -10, 10);
        suppers("CHAPLAIN", Due.court(24, 9, 0, 1), 0, 90, 44, 44, 3, 84, 34, 34);
        suppers("CHAPLAIN, cold", at(39, Due.court(24, 9)), 0, 39, -7, 3);
        suppers("CHAPLAIN, just cold", at(45, Due.court(24, 9)), 0, 45, -1, 0);
        suppers("KING", Due.court(36, 9, 0, 1), 0, 90, 41, 82, 4, 82, 32, 32);
        suppers("KING at 60", at(60, Due.court(36, 9, 0, 1)), 0, 60, 11, 22, 1, 58, 8, 8);
        suppers("KING, cold", at(40, Due.court(36, 9)), 0, 40, -9, 9);
        suppers("VISCOUNT", Due.court(45, 9, 0, 1), 0, 90, 45, 40, 5, 80, 30, 30);
        suppers("VISCOUNT, cold", at(28, Due.court(45, 9)), 0, 28, -17, 3);
        suppers("VISCOUNT, just cold", at(38, Due.court(45, 9)), 0, 38, -7, 0);
        suppers("LOVER", Due.court(57, 9, 0, 1), 0, 90, 40, -7, 0, 90, 40, 40);
        suppers("LOVER of none", at(3, Due.court(50, 9)), 0, 3, -47, 0);
        SoupByRank x = Due.court(45, 9, 0, 1);
        for (int supper = 1; supper < 8; supper++) {
            x.brings(0, supper);
            DUE.is("VISCOUNT at SUPPER " + supper, x.told(1, 5), supper == 4 ? 5 : 3);
        }
    }

    private static void bounds() {
        SoupByRank x = Due.under(Due.court(39, 9, 29, 8), "cools 1;waits 1;likes 0;");
        suppers("LIKES at the bounds", x, 0, 90, -9, 9, 5, 85, 85, 85);
        x = Due.under(Due.court(0, 9, 0, 8), "cools 500;waits 500;likes 500;");
        suppers("more than the bounds", x, 0, 90, -9, 9, 20, 0, -99, 99);
        x = Due.under(Due.court(0, 9, 0, 8), "cools -5;waits -5;likes -5;");
        suppers("less than the bounds", x, 0, 90, 90, 90, 0, 90, 90, 90);
    }

    private static void coolsAsItGoes() {
        SoupByRank x = Due.under(Due.court(0, 9, 0, 8), "cools minute;waits 3;likes 50;");
        DUE.is("cools by minute", x.told(1, 6), 90 - 0 - 1 - 2);
        x = Due.under(Due.court(0, 9, 0, 8), "cools (heat=90)*10+(heat=80)*7+(heat=73);waits 3;likes 50;");
        DUE.is("cools by heat", x.told(1, 6), 90 - 10 - 7 - 1);
        // a LOVER lets the next one begin at once: then it cools by the one who began last
        x = Due.under(Due.court(0, 9, 50, 8, 0, 7, 0, 6), "cools down*10+1;waits 3;likes 50;");
        suppers("cools by down", x, 0, 90, 40, 40, 3, 87, 37, 0, 3, 87, 37, 37, 6, 24, -26, 26);
        x = Due.under(Due.court(9, 9, 9, 8), "cools rank+mood+more+1;waits 3;likes 50;");
        DUE.is("cools has no rank, mood, more", x.told(1, 6), 87);
        x = Due.under(Due.court(0, 9, 0, 8), "cools heat;waits 2;likes 50;");
        DUE.is("cools all", x.told(1, 6), 0);
    }

    private static void toldAsOneBegins() {
        SoupByRank x = Due.under(Due.court(4, 5, 2, 6), "cools 2;waits more+rank;likes more*10+down*5+minute;");
        suppers("rank, more, down, minute", x, 8, 74, 74 - 53, 74 - 53, 0, 90, 70, 70);
        x = Due.under(Due.court(0, 5, 0, 6), "cools 2;waits heat-85;likes mood-460;");
        x.put(1, 1, 480);
        suppers("heat, mood", x, 5, 80, 40, 40, 0, 90, 70, 70);
    }

    private static void whoNeverBegins() {
        SoupByRank x = Due.under(Due.court(0, 1, 0, 2, 0, 3, 0, 4, 0, 5, 0, 6), "cools 0;waits 20;likes 85;");
        suppers("up to minute 60", x, -1, -1, -6000, -6000, -1, -1, -6000, -6000, 60, 90, 5, 5, 40, 90, 5, 5);
        DUE.is("who begins last", x.table(0), 2);
        DUE.is("in which minute", x.table(1), 60);
        DUE.is("MINDS", x.table(2), 20);
        DUE.is("who never begins", x.table(3), 3);
        // a LOVER behind one who never begins doesn't begin either
        x = Due.under(Due.court(19, 9, 19, 8, 19, 7, 50, 6, 0, 5), "cools 0;waits 20;likes 85;");
        DUE.is("29 and 29 and 29 minutes", x.table(3), 24);
        DUE.is("who begins last of them", x.table(0), 2);
        DUE.is("in which minute of them", x.table(1), 58);
    }

    private static void promise11Table() {
        SoupByRank x = new SoupByRank();
        int[] nobody = {-1, -1, 0, 0, -1};
        for (int what = 0; what < 5; what++) {
            DUE.is("table(" + what + ") of nobody", x.table(what), nobody[what]);
        }
        x = Due.court(0, 40);
        int[] one = {0, 0, 40, 0, 0};
        for (int what = 0; what < 5; what++) {
            DUE.is("table(" + what + ") of one", x.table(what), one[what]);
        }
        x = Due.court(0, 40, 14, 30, 0, 50);
        // 50: 90, minds 40; 40: 84, 34; 30: 78, 28 twice
        int[] due = {1, 6, 130, 0, 1};
        for (int what = 0; what < 5; what++) {
            DUE.is("table(" + what + ")", x.table(what), due[what]);
        }
        DUE.is("table(-1)", x.table(-1), -100000);
        DUE.is("table(5)", x.table(5), -100000);
        // all mind 40: the first by number, though 1 begins first
        x = Due.under(Due.court(0, 40, 0, 50), "cools 0;waits 3;likes 50;");
        DUE.is("of like ones the first", x.table(4), 0);
        // who never begins doesn't mind, though all others mind less than nothing
        x = Due.under(Due.court(0, 1, 59, 9, 19, 8, 19, 7, 19, 6, 52, 9), "cools 0;waits 20;likes 90;");
        DUE.is("who minds most, of those who begin", x.table(4), 2);
        x = Due.court(59, 9, 52, 9);
        DUE.is("who minds most below 0", x.table(4), 1);
        DUE.is("MINDS below 0", x.table(2), -11);
    }

    private static void promise12Sup() {
        SoupByRank x = Due.court(0, 9, 0, 8, 57, 7);
        DUE.is("sup()", x.sup(), 40 + 34 - 7);
        DUE.is("MOOD of 0", x.told(0, 1), 460);
        DUE.is("MOOD of 1", x.told(1, 1), 466);
        DUE.is("MOOD of 2", x.told(2, 1), 507);
        DUE.is("SUPPER", x.count(1), 1);
        x.put(0, 1, 39);
        x.put(1, 1, 34);
        x.put(2, 1, 995);
        DUE.is("sup() again", x.sup(), 67);
        DUE.is("MOOD 0 at least", x.told(0, 1), 0);
        DUE.is("MOOD 0 just so", x.told(1, 1), 0);
        DUE.is("MOOD 999 at most", x.told(2, 1), 999);
        x.brings(0, 998);
        DUE.is("sup() at 998", x.sup(), 67);
        DUE.is("sup() at 999", x.sup(), -100000);
        DUE.is("SUPPER stays", x.count(1), 999);
        DUE.is("HEAT stays", x.count(2), 90);
        DUE.is("sup() of nobody", new SoupByRank().sup(), 0);
        x = Due.under(Due.court(0, 9, 0, 8, 0, 7, 0, 6, 0, 5, 0, 4), "cools 0;waits 20;likes 85;");
        x.put(5, 1, 9);
        DUE.is("sup() where two never begin", x.sup(), 20);
        DUE.is("MOOD of who begins", x.told(3, 1), 495);
        DUE.is("MOOD of who never begins", x.told(4, 1), 490);
        DUE.is("MOOD of who never begins, 0 at least", x.told(5, 1), 0);
        // what one minds is told ahead of all changes of moods
        x = Due.under(Due.court(0, 9, 0, 8), "cools 0;waits 1;likes mood-450;");
        DUE.is("told ahead", x.sup(), 80);
        DUE.is("by the mood from then on", x.sup(), 160);
    }

    private static void promise13Run() {
        SoupByRank x = Due.court(0, 9, 59, 8);
        DUE.is("MOOD after 4", x.run(0, 4, 0), 340);
        DUE.is("less by 4", x.run(0, 4, 1), 160);
        DUE.is("MINDS of 4", x.run(0, 4, 2), 4 * 31);
        DUE.is("MOOD after 0", x.run(0, 0, 0), 500);
        DUE.is("less by 0", x.run(0, 0, 1), 0);
        DUE.is("MINDS of 0", x.run(0, 0, 2), 0);
        DUE.is("MOOD after 20", x.run(0, 20, 0), 0);
        DUE.is("less by 20, no bound", x.run(0, 20, 1), 800);
        DUE.is("less by 20, below 0", x.run(1, 20, 1), -180);
        DUE.is("MOOD of 1 after 20", x.run(1, 20, 0), 680);
        DUE.is("nothing changes truly", x.told(0, 1), 500);
        DUE.is("nor the SUPPER", x.count(1), 0);
        DUE.is("none such", x.run(2, 1, 0), -100000);
        DUE.is("none such, -1", x.run(-1, 1, 0), -100000);
        DUE.is("n -1", x.run(0, -1, 0), -100000);
        DUE.is("n 21", x.run(0, 21, 0), -100000);
        DUE.is("what 3", x.run(0, 1, 3), -100000);
        DUE.is("what -1", x.run(0, 1, -1), -100000);
        // the SUPPER goes on: a VISCOUNT waits 9 in the first and the fifth, else 3
        x = Due.court(49, 9, 0, 8);
        DUE.is("SUPPER by SUPPER", x.run(1, 5, 1), 22 + 34 + 34 + 34 + 22);
        x.brings(0, 999);
        DUE.is("past 999, in thought", x.run(1, 2, 1), 34 + 22);
        // moods from supper to supper: likes mood - 450, which is 50, then 10 and 0
        x = Due.under(Due.court(0, 9), "cools 0;waits 1;likes mood-450;");
        DUE.is("mood by mood", x.run(0, 3, 1), 40 + 80 + 90);
        x = Due.under(Due.court(0, 9, 0, 8, 0, 7, 0, 6, 0, 5), "cools 0;waits 20;likes 85;");
        DUE.is("10 where one never begins", x.run(4, 3, 1), 30);
        DUE.is("MOOD of who never begins", x.run(4, 3, 0), 470);
    }

    public static void main(String[] args) {
        kinds();
        bounds();
        coolsAsItGoes();
        toldAsOneBegins();
        whoNeverBegins();
        promise11Table();
        promise12Sup();
        promise13Run();
        DUE.end();
    }
}
