/** Promises 1 to 4 and 6 to 10: the court, the law. */
public final class CourtTest {
    private static final Due DUE = new Due("CourtTest");

    private static void promise1AndAtFirst() {
        SoupByRank x = new SoupByRank();
        int[] first = {0, 0, 90, 1, 0, 0};
        for (int what = 0; what < 6; what++) {
            DUE.is("count(" + what + ") at first", x.count(what), first[what]);
        }
        DUE.is("told(0, 0) at first", x.told(0, 0), -5000);
        DUE.is("asks cools at first", x.asks(0, -1, 0, 0, 0), 2);
        DUE.is("asks waits at first", x.asks(1, -1, 0, 0, 0), 3);
        DUE.is("asks likes at first", x.asks(2, -1, 0, 0, 0), 50);
        DUE.is("a sheet at first", x.judge(3), -11);
        DUE.is("an image at first", x.back(), -3);
    }

    private static void promise2Count() {
        SoupByRank x = Due.court(0, 5, 10, 6);
        x.brings(0, 7);
        x.brings(1, 8);
        Due.text(x, "cools 1;waits 1;likes 1;");
        x.force(1);
        x.feed(3, 1, 2, 3, 4, 5);
        int[] due = {2, 7, 8, 2, 1, 3};
        for (int what = 0; what < 6; what++) {
            DUE.is("count(" + what + ")", x.count(what), due[what]);
        }
        DUE.is("count(-1)", x.count(-1), -2);
        DUE.is("count(6)", x.count(6), -2);
    }

    private static void promise3Brings() {
        SoupByRank x = new SoupByRank();
        DUE.is("brings(0, 999)", x.brings(0, 999), 0);
        DUE.is("brings(0, 0)", x.brings(0, 0), 999);
        DUE.is("brings(1, 99)", x.brings(1, 99), 90);
        DUE.is("brings(1, 0)", x.brings(1, 0), 99);
        DUE.is("brings(0, 1000)", x.brings(0, 1000), -2);
        DUE.is("brings(0, -1)", x.brings(0, -1), -2);
        DUE.is("brings(1, 100)", x.brings(1, 100), -2);
        DUE.is("brings(1, -1)", x.brings(1, -1), -2);
        DUE.is("brings(2, 1)", x.brings(2, 1), -2);
        DUE.is("brings(-1, 1)", x.brings(-1, 1), -2);
        DUE.is("SUPPER after refusals", x.count(1), 0);
        DUE.is("HEAT after refusals", x.count(2), 0);
    }

    private static void promise4Feed() {
        SoupByRank x = new SoupByRank();
        DUE.is("feed 5", x.feed(5, 0, 255, 1, 2, 3), 5);
        DUE.is("feed 1", x.feed(1, 9, 0, 0, 0, 0), 6);
        DUE.is("feed 0", x.feed(0, 9, 0, 0, 0, 0), -2);
        DUE.is("feed 6", x.feed(6, 9, 0, 0, 0, 0), -2);
        for (int bad = 0; bad < 5; bad++) {
            for (int v : new int[] {-1, 256}) {
                int[] b = new int[5];
                b[bad] = v;
                DUE.is("feed with byte " + bad + " " + v, x.feed(1, b[0], b[1], b[2], b[3], b[4]), -2);
            }
        }
        for (int i = 0; i < 30; i++) {
            x.feed(5, 1, 1, 1, 1, 1);
        }
        DUE.is("bytes", x.count(5), 156);
        DUE.is("feed past the tape", x.feed(5, 1, 1, 1, 1, 1), -4);
        DUE.is("a bad number ahead of FULL", x.feed(5, 1, 1, 1, 1, 256), -2);
        DUE.is("none came", x.count(5), 156);
        DUE.is("feed to the end", x.feed(4, 1, 1, 1, 1, 1), 160);
        DUE.is("feed 1 more", x.feed(1, 1, 1, 1, 1, 1), -4);
        x = new SoupByRank();
        x.feed(5, 'c', 'o', 'o', 'l', 's');
        x.feed(4, ' ', '7', ';', 'w', '!');
        x.feed(5, 'a', 'i', 't', 's', ' ');
        x.feed(3, '4', ';', 'l', 'x', 'y');
        x.feed(5, 'i', 'k', 'e', 's', ' ');
        x.feed(2, '9', ';', 0, 0, 0);
        DUE.is("bytes came one by one", x.text(), 1);
        x.force(1);
        DUE.is("and in their order", x.asks(0, -1, 1, 1, 1) * 100 + x.asks(1, -1, 1, 1, 1) * 10
                + x.asks(2, -1, 1, 1, 1), 749);
    }

    private static void promise6Force() {
        SoupByRank x = new SoupByRank();
        DUE.is("force(0)", x.force(0), 0);
        DUE.is("force(1) ahead of a text", x.force(1), -2);
        Due.text(x, "cools 9;waits 1;likes 1;");
        DUE.is("a text is not the law by itself", x.asks(0, -1, 1, 1, 1), 2);
        DUE.is("force(1)", x.force(1), 0);
        DUE.is("the law", x.asks(0, -1, 1, 1, 1), 9);
        DUE.is("force(2)", x.force(2), -2);
        DUE.is("force(-1)", x.force(-1), -2);
        DUE.is("force(0) again", x.force(0), 1);
        DUE.is("the law again", x.asks(0, -1, 1, 1, 1), 2);
    }

    private static void promise7Asks() {
        SoupByRank x = Due.court(6, 17);
        Due.under(x, "cools heat+rank+mood+more;waits minute+more;likes down+rank;");
        x.put(0, 1, 3);
        DUE.is("cools: heat alone", x.asks(0, -1, 42, 60, 6), 42);
        DUE.is("cools has no rank, mood, more", x.asks(0, 0, 42, 60, 6), 42);
        DUE.is("waits: minute", x.asks(1, -1, 42, 5, 6), 5);
        DUE.is("waits: minute and more", x.asks(1, 0, 42, 5, 6), 11);
        DUE.is("waits: 20 at most", x.asks(1, 0, 42, 60, 6), 20);
        DUE.is("likes: down", x.asks(2, -1, 42, 5, 6), 6);
        DUE.is("likes: down and rank", x.asks(2, 0, 42, 5, 0), 17);
        Due.under(x, "cools 0-heat;waits mood;likes mood*100;");
        DUE.is("cools: 0 at least", x.asks(0, -1, 42, 0, 0), 0);
        DUE.is("waits: mood", x.asks(1, 0, 0, 0, 0), 3);
        DUE.is("likes: 99 at most", x.asks(2, 0, 0, 0, 0), 99);
        DUE.is("likes: none has mood 0", x.asks(2, -1, 0, 0, 0), 0);
        int[][] bad = {{-1, 0, 0, 0, 0}, {3, 0, 0, 0, 0}, {0, -2, 0, 0, 0}, {0, 1, 0, 0, 0}, {0, 0, -1, 0, 0},
            {0, 0, 100, 0, 0}, {0, 0, 0, -1, 0}, {0, 0, 0, 61, 0}, {0, 0, 0, 0, -1}, {0, 0, 0, 0, 7}};
        for (int[] b : bad) {
            DUE.is("asks" + java.util.Arrays.toString(b), x.asks(b[0], b[1], b[2], b[3], b[4]), -2);
        }
        DUE.is("asks at the upper bounds", x.asks(2, 0, 99, 60, 6), 99);
    }

    private static void promise8Courtier() {
        SoupByRank x = new SoupByRank();
        DUE.is("courtier(60, 0)", x.courtier(60, 0), -2);
        DUE.is("courtier(-1, 0)", x.courtier(-1, 0), -2);
        DUE.is("courtier(0, 100)", x.courtier(0, 100), -2);
        DUE.is("courtier(0, -1)", x.courtier(0, -1), -2);
        DUE.is("nobody came", x.count(0), 0);
        for (int p = 0; p < 6; p++) {
            DUE.is("courtier " + p, x.courtier(10 * p + 9 - p, 99 - p), p);
        }
        DUE.is("courtier 6", x.courtier(59, 99), -4);
        DUE.is("a bad kind ahead of FULL", x.courtier(60, 99), -2);
        DUE.is("a bad rank ahead of FULL", x.courtier(0, 100), -2);
        for (int p = 0; p < 6; p++) {
            DUE.is("RANK of " + p, x.told(p, 0), 99 - p);
            DUE.is("MOOD of " + p, x.told(p, 1), 500);
            DUE.is("KIND of " + p, x.told(p, 2), p);
            DUE.is("MORE of " + p, x.told(p, 3), 9 - p);
        }
    }

    private static void promise9Put() {
        SoupByRank x = Due.court(0, 40, 0, 50);
        DUE.is("put RANK", x.put(0, 0, 99), 40);
        DUE.is("put RANK again", x.put(0, 0, 0), 99);
        DUE.is("put MOOD", x.put(1, 1, 999), 500);
        DUE.is("put MOOD again", x.put(1, 1, 0), 999);
        DUE.is("none such", x.put(2, 0, 1), -5);
        DUE.is("none such, -1", x.put(-1, 0, 1), -5);
        DUE.is("none such ahead of what", x.put(2, 9, 9999), -5);
        DUE.is("what 2", x.put(0, 2, 1), -7);
        DUE.is("what -1", x.put(0, -1, 1), -7);
        DUE.is("RANK 100", x.put(0, 0, 100), -7);
        DUE.is("RANK -1", x.put(0, 0, -1), -7);
        DUE.is("MOOD 1000", x.put(0, 1, 1000), -7);
        DUE.is("MOOD -1", x.put(0, 1, -1), -7);
        DUE.is("RANK of 0", x.told(0, 0), 0);
        DUE.is("MOOD of 0", x.told(0, 1), 500);
        DUE.is("RANK of 1", x.told(1, 0), 50);
        DUE.is("MOOD of 1", x.told(1, 1), 0);
    }

    private static void promise10Told() {
        // 2 is the best by rank, then 0 ahead of 1 by number
        SoupByRank x = Due.court(0, 40, 23, 40, 0, 41);
        x.put(1, 1, 77);
        int[][] due = {{40, 500, 0, 0, 1, 3, 84, 34, 34}, {40, 77, 2, 3, 2, 6, 78, 31, 31},
            {41, 500, 0, 0, 0, 0, 90, 40, 40}};
        for (int p = 0; p < 3; p++) {
            for (int what = 0; what < 9; what++) {
                DUE.is("told(" + p + ", " + what + ")", x.told(p, what), due[p][what]);
            }
        }
        DUE.is("none such", x.told(3, 0), -5000);
        DUE.is("none such, -1", x.told(-1, 0), -5000);
        DUE.is("none such ahead of what", x.told(3, 9), -5000);
        DUE.is("what 9", x.told(0, 9), -7000);
        DUE.is("what -1", x.told(0, -1), -7000);
        Due.under(x, "cools 1;waits 20;likes 50;");
        x.courtier(0, 7);
        x.courtier(0, 6);
        DUE.is("who begins in minute 60", x.told(3, 5), 60);
        DUE.is("gets it", x.told(3, 6), 30);
        DUE.is("is off, too cold", x.told(3, 7), -20);
        DUE.is("minds that", x.told(3, 8), 20);
        DUE.is("DOWN of who never begins", x.told(4, 4), 4);
        DUE.is("never begins", x.told(4, 5), -1);
        DUE.is("never gets it", x.told(4, 6), -1);
        DUE.is("never is off", x.told(4, 7), -6000);
        DUE.is("never minds", x.told(4, 8), -6000);
    }

    public static void main(String[] args) {
        promise1AndAtFirst();
        promise2Count();
        promise3Brings();
        promise4Feed();
        promise6Force();
        promise7Asks();
        promise8Courtier();
        promise9Put();
        promise10Told();
        DUE.end();
    }
}
