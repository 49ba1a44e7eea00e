/** Promises 20 to 25: told suppers. Of two COURTIERS, the first gets it at 90, the other one at 84. */
public final class ToldSuppersTest {
    private static final Due DUE = new Due("ToldSuppersTest");

    private static void promise20Judge() {
        SoupByRank x = Due.court(0, 9, 0, 8);
        Due.fill(x, 0, 90, 84);
        DUE.is("as told", x.judge(0), -1);
        Due.fill(x, 0, 90, 83);
        DUE.is("the other one is otherwise", x.judge(0), 1);
        Due.fill(x, 0, 89, 83);
        DUE.is("both are otherwise", x.judge(0), 0);
        Due.fill(x, 0, 90);
        DUE.is("of one alone", x.judge(0), -1);
        Due.fill(x, 0);
        DUE.is("of none", x.judge(0), -1);
        Due.fill(x, 0, 90 + 256, 84);
        DUE.is("ints are not cut", x.judge(0), 0);
        Due.fill(x, 0, 90, 84, 78);
        DUE.is("of more than there are", x.judge(0), -2);
        x.courtier(0, 7);
        DUE.is("of as many as there are", x.judge(0), -1);
        DUE.is("missing", x.judge(1), -11);
        DUE.is("SHEET 4", x.judge(4), -2);
        DUE.is("SHEET -1", x.judge(-1), -2);
        x.sheet(0, 0, 1);
        x.cell(0, 0, 90 + 256);
        DUE.is("bytes are cut", x.judge(0), -1);
        x = Due.under(Due.court(0, 9, 0, 8, 0, 7, 0, 6, 0, 5), "cools 0;waits 20;likes 85;");
        Due.fill(x, 0, 90, 90, 90, 90, -1);
        DUE.is("one never gets it", x.judge(0), -1);
        x.cell(0, 4, 0);
        DUE.is("0 is not never", x.judge(0), 4);
        DUE.is("nobody, of none", nobody().judge(0), -1);
    }

    private static SoupByRank nobody() {
        SoupByRank x = new SoupByRank();
        x.sheet(0, 1, 0);
        return x;
    }

    private static void promise21Kinds() {
        SoupByRank x = Due.court(3, 9, 0, 8);
        Due.fill(x, 0, 90, 84);
        // waits 3: a COURTIER, a CHAPLAIN, a KING (half of 6), a VISCOUNT (MORE)
        DUE.is("KINDS of 0", x.kinds(0, 0, 0), 1 + 4 + 8 + 16);
        DUE.is("KINDS of the last one", x.kinds(0, 1, 0), 63);
        DUE.is("MORE of a COURTIER", x.kinds(0, 0, 1), 1023);
        DUE.is("KIND stays", x.told(0, 2), 0);
        DUE.is("MORE stays", x.told(0, 3), 3);
        x.brings(0, 1);
        x.put(0, 0, 10);
        DUE.is("KINDS at SUPPER 1", x.kinds(0, 0, 0), 1 + 4 + 8 + 16);
        Due.fill(x, 0, 90, 90);
        DUE.is("KINDS, the LOVER alone", x.kinds(0, 0, 0), 32);
        DUE.is("MORE, none", x.kinds(0, 0, 1), 0);
        x = Due.court(35, 9, 0, 8);
        Due.fill(x, 0, 90, 82);
        // half of 3 and MORE is 4 by 5 and by 6
        DUE.is("MORE of a KING", x.kinds(0, 0, 1), 32 + 64);
        DUE.is("BAD", x.kinds(4, 9, 9), -2);
        DUE.is("missing", x.kinds(1, 9, 9), -11);
        DUE.is("none such", x.kinds(0, 2, 9), -5);
        DUE.is("none such, -1", x.kinds(0, -1, 9), -5);
        DUE.is("sort 2", x.kinds(0, 0, 2), -7);
        DUE.is("sort -1", x.kinds(0, 0, -1), -7);
        Due.fill(x, 0, 90, 82, 80);
        DUE.is("of more than there are", x.kinds(0, 9, 9), -2);
        DUE.is("nobody", nobody().kinds(0, 0, 0), -5);
    }

    private static void promise22Ranks() {
        SoupByRank x = Due.court(0, 50, 0, 20);
        Due.fill(x, 0, 90, 84);
        DUE.is("how many for 0", x.ranks(0, 0, 0), 80);
        DUE.is("the least for 0", x.ranks(0, 0, 1), 20);
        DUE.is("how many for 1", x.ranks(0, 1, 0), 51);
        DUE.is("the least for 1", x.ranks(0, 1, 1), 0);
        DUE.is("RANK stays", x.told(0, 0), 50);
        Due.fill(x, 0, 84, 84);
        DUE.is("how many, none", x.ranks(0, 0, 0), 0);
        DUE.is("the least, none", x.ranks(0, 0, 1), -1);
        Due.fill(x, 0, 84, 90);
        DUE.is("the least for 1 to be the best", x.ranks(0, 1, 1), 51);
        DUE.is("BAD", x.ranks(-1, 9, 9), -2);
        DUE.is("missing", x.ranks(1, 9, 9), -11);
        DUE.is("none such", x.ranks(0, 2, 9), -5);
        DUE.is("what 2", x.ranks(0, 0, 2), -7);
        DUE.is("what -1", x.ranks(0, 0, -1), -7);
        Due.fill(x, 0, 90, 84, 80);
        DUE.is("of more than there are", x.ranks(0, 9, 9), -2);
    }

    private static void promise23Heats() {
        SoupByRank x = Due.court(0, 50, 0, 20);
        Due.fill(x, 0, 70, 64);
        DUE.is("how many", x.heats(0, 0), 1);
        DUE.is("the least", x.heats(0, 1), 70);
        DUE.is("HEAT stays", x.count(2), 90);
        Due.fill(x, 0, 70, 65);
        DUE.is("how many, none", x.heats(0, 0), 0);
        DUE.is("the least, none", x.heats(0, 1), -1);
        Due.fill(x, 0);
        DUE.is("how many, of none", x.heats(0, 0), 100);
        DUE.is("the least, of none", x.heats(0, 1), 0);
        // 1 is the best now, 0 gets it at 0 by each HEAT up to 6
        x.put(1, 0, 60);
        Due.fill(x, 0, 0);
        DUE.is("how many by 0 alone", x.heats(0, 0), 7);
        DUE.is("the least by 0 alone", x.heats(0, 1), 0);
        Due.fill(x, 0, 93);
        DUE.is("the greatest", x.heats(0, 1), 99);
        DUE.is("BAD", x.heats(4, 9), -2);
        DUE.is("missing", x.heats(1, 9), -11);
        DUE.is("what 2", x.heats(0, 2), -7);
        DUE.is("what -1", x.heats(0, -1), -7);
        Due.fill(x, 0, 90, 84, 80);
        DUE.is("of more than there are", x.heats(0, 9), -2);
    }

    private static void promise24Laws() {
        SoupByRank x = Due.court(0, 50, 0, 20);
        Due.text(x, "cools 3;waits 2;likes 7;");
        Due.text(x, "cools 1;waits 1;likes 7;");
        Due.under(x, "cools 6-heat*0;waits 1;likes 7;");
        Due.fill(x, 0, 90, 84);
        DUE.is("laws", x.laws(0), 1 + 2 + 8);
        DUE.is("THE LAW stays", x.count(4), 3);
        Due.fill(x, 0, 90, 89);
        DUE.is("one of them", x.laws(0), 4);
        Due.fill(x, 0, 90, 88);
        DUE.is("none of them", x.laws(0), 0);
        Due.fill(x, 0);
        DUE.is("all that there are", x.laws(0), 15);
        DUE.is("BAD", x.laws(4), -2);
        DUE.is("missing", x.laws(1), -11);
        Due.fill(x, 0, 90, 84, 80);
        DUE.is("of more than there are", x.laws(0), -2);
    }

    private static void promise25Film() {
        SoupByRank x = Due.under(Due.court(0, 9, 0, 8, 0, 7, 0, 6, 0, 5), "cools 1;waits 20;likes 85;");
        Due.fill(x, 2, 1, 2, 3, 4, 5, 6, 7);
        DUE.is("film", x.film(2), 5);
        DUE.is("it is as told", x.judge(2), -1);
        DUE.is("its size", x.cell(2, 5, 0), -12);
        Due.fill(x, 1, 90, 70, 50, 30, -1);
        DUE.is("it is of bytes, not ints", x.copy(2, 0, 1, 0, 1), -13);
        x.sheet(1, 0, 5);
        DUE.is("it is of bytes", x.copy(2, 0, 1, 0, 5), 5);
        DUE.is("and so is its copy", x.judge(1), -1);
        int[] due = {90, 70, 50, 30, -1};
        for (int p = 0; p < 5; p++) {
            x.cell(2, p, due[p] + 1);
            DUE.is("otherwise at " + p, x.judge(2), p);
            x.cell(2, p, due[p]);
            DUE.is("as told at " + p, x.judge(2), -1);
        }
        DUE.is("SHEET 4", x.film(4), -2);
        DUE.is("SHEET -1", x.film(-1), -2);
        x = new SoupByRank();
        DUE.is("film of nobody", x.film(0), 0);
        DUE.is("it is there", x.judge(0), -1);
        DUE.is("it is empty", x.cell(0, 0, 0), -12);
    }

    public static void main(String[] args) {
        promise20Judge();
        promise21Kinds();
        promise22Ranks();
        promise23Heats();
        promise24Laws();
        promise25Film();
        DUE.end();
    }
}
