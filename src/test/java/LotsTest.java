/** Promises 26 to 29: ranks by lots, images. By SEED 0 the ranks are 71, 94, 86, 37, 41, 83. */
public final class LotsTest {
    private static final Due DUE = new Due("LotsTest");

    private static void promise26Drawn() {
        SoupByRank x = Due.court(14, 0, 0, 0);
        // 0 of rank 71, 1 of rank 94: 40 + 68; by SEED 3 84 and 76: 80 + 26
        DUE.is("MINDS by 0", x.drawn(0, 0), 108);
        DUE.is("the last by 0", x.drawn(0, 1), 0);
        DUE.is("MINDS by 3", x.drawn(3, 0), 106);
        DUE.is("the last by 3", x.drawn(3, 1), 1);
        DUE.is("RANK stays", x.told(1, 0), 0);
        x = Due.under(Due.court(0, 0, 0, 0, 0, 0, 0, 0, 0, 0, 0, 0), "cools 0;waits 0;likes rank;");
        DUE.is("all six ranks", x.drawn(0, 0), 19 + 4 + 4 + 53 + 49 + 7);
        DUE.is("the last of six", x.drawn(0, 1), 3);
        // 100000 times 48271 modulo 2147483647 is 532132706
        x = Due.under(Due.court(0, 0), "cools 0;waits 0;likes rank;");
        DUE.is("MINDS by 99999", x.drawn(99999, 0), 90 - 100000L * 48271 % 2147483647 % 100);
        DUE.is("SEED 100000", x.drawn(100000, 0), -100000);
        DUE.is("SEED -1", x.drawn(-1, 0), -100000);
        DUE.is("what 2", x.drawn(0, 2), -100000);
        DUE.is("what -1", x.drawn(0, -1), -100000);
        DUE.is("MINDS of nobody", new SoupByRank().drawn(5, 0), 0);
        DUE.is("the last of nobody", new SoupByRank().drawn(5, 1), -1);
    }

    private static void odds(SoupByRank x, int seed, int seeds, int most, long above, long below) {
        String call = "odds(" + seed + ", " + seeds + ", " + most + ")";
        DUE.is(call + " above", x.odds(seed, seeds, most, 0), above);
        DUE.is(call + " below", x.odds(seed, seeds, most, 1), below);
    }

    private static void promise27Odds() {
        SoupByRank x = Due.court(14, 0, 0, 0);
        odds(x, 0, 4, 107, 1, 4);
        odds(x, 2, 2, 107, 1, 2);
        odds(x, 3, 1, 106, 1, 1);
        odds(x, 3, 1, 105, 0, 1);
        odds(x, 0, 4, 108, 1, 1);
        odds(x, 0, 4, 105, 0, 1);
        odds(x, 0, 4, -999, 0, 1);
        odds(x, 99999, 40, 9999, 1, 1);
        odds(new SoupByRank(), 0, 40, 0, 1, 1);
        odds(new SoupByRank(), 0, 40, -1, 0, 1);
        // the rank alone tells: 71, 42, 13, 84, 55, 26 by SEEDS 0 to 5; 90 less it is 48 at most by 71, 42, 84, 55
        odds(Due.under(Due.court(0, 0), "cools 0;waits 0;likes rank;"), 0, 6, 48, 2, 3);
        DUE.is("SEED -1", x.odds(-1, 1, 0, 0), SoupByRank.NO);
        DUE.is("SEED 100000", x.odds(100000, 1, 0, 0), SoupByRank.NO);
        DUE.is("seeds 0", x.odds(0, 0, 0, 0), SoupByRank.NO);
        DUE.is("seeds 41", x.odds(0, 41, 0, 0), SoupByRank.NO);
        DUE.is("most -1000", x.odds(0, 1, -1000, 0), SoupByRank.NO);
        DUE.is("most 10000", x.odds(0, 1, 10000, 0), SoupByRank.NO);
        DUE.is("part 2", x.odds(0, 1, 0, 2), SoupByRank.NO);
        DUE.is("part -1", x.odds(0, 1, 0, -1), SoupByRank.NO);
    }

    private static void promises28And29() {
        SoupByRank x = Due.court(0, 50, 0, 40);
        DUE.is("back() ahead of an image", x.back(), -3);
        x.put(0, 1, 321);
        x.brings(0, 5);
        x.brings(1, 77);
        DUE.is("image()", x.image(), 2);
        x.courtier(33, 99);
        x.put(0, 0, 1);
        x.put(1, 1, 2);
        x.brings(0, 8);
        x.brings(1, 9);
        Due.under(x, "cools 1;waits 1;likes 1;");
        x.feed(2, 65, 66, 0, 0, 0);
        x.film(3);
        DUE.is("back()", x.back(), 2);
        int[] counts = {2, 5, 77, 2, 0, 2};
        for (int what = 0; what < 6; what++) {
            DUE.is("count(" + what + ") after back", x.count(what), counts[what]);
        }
        DUE.is("RANK of 0", x.told(0, 0), 50);
        DUE.is("MOOD of 0", x.told(0, 1), 321);
        DUE.is("RANK of 1", x.told(1, 0), 40);
        DUE.is("MOOD of 1", x.told(1, 1), 500);
        DUE.is("who came since is none", x.told(2, 0), -5000);
        DUE.is("sheets stay", x.cell(3, 2, 0), 1);
        DUE.is("another one comes", x.courtier(52, 7), 2);
        DUE.is("of another KIND", x.told(2, 2), 5);
        DUE.is("of MOOD 500", x.told(2, 1), 500);
        x.sup();
        DUE.is("back() again", x.back(), 2);
        DUE.is("SUPPER again", x.count(1), 5);
        DUE.is("MOOD again", x.told(0, 1), 321);
        x.courtier(11, 12);
        x.force(1);
        DUE.is("image() anew", x.image(), 3);
        x.force(0);
        x.put(2, 0, 99);
        DUE.is("back() to the new one", x.back(), 3);
        DUE.is("its law", x.count(4), 1);
        DUE.is("its RANK", x.told(2, 0), 12);
        DUE.is("its KIND", x.told(2, 2), 1);
        SoupByRank y = new SoupByRank();
        DUE.is("image() of nobody", y.image(), 0);
        y.courtier(0, 0);
        DUE.is("back() to nobody", y.back(), 0);
        DUE.is("nobody is there", y.count(0), 0);
    }

    public static void main(String[] args) {
        promise26Drawn();
        promise27Odds();
        promises28And29();
        DUE.end();
    }
}
