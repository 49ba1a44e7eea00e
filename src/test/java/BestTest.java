/** Promises 14 to 19: what is best. */
public final class BestTest {
    private static final Due DUE = new Due("BestTest");

    private static void promise14Cook() {
        SoupByRank x = new SoupByRank();
        DUE.is("cook(0) of nobody", x.cook(0), 0);
        DUE.is("cook(1) of nobody", x.cook(1), 0);
        x = Due.court(0, 9, 0, 8);
        // from 50 to 56 the two mind 6 together
        DUE.is("cook(0)", x.cook(0), 50);
        DUE.is("cook(1)", x.cook(1), 6);
        DUE.is("HEAT stays", x.count(2), 90);
        DUE.is("cook(2)", x.cook(2), -100000);
        DUE.is("cook(-1)", x.cook(-1), -100000);
        x = Due.under(Due.court(0, 9), "cools 2;waits 3;likes 99;");
        DUE.is("cook(0) at the end", x.cook(0), 99);
        x = Due.court(54, 9);
        DUE.is("cook(0) of a LOVER", x.cook(0), 0);
        DUE.is("cook(1) of a LOVER", x.cook(1), -4);
    }

    private static void promise15Raise() {
        SoupByRank x = Due.court(14, 5, 0, 9);
        // now 40 + 68; the EARL first: 80 + 26
        DUE.is("raise(0)", x.raise(0), 1);
        DUE.is("raise(1)", x.raise(1), 106);
        DUE.is("RANK stays", x.told(0, 0), 5);
        x.put(0, 0, 10);
        DUE.is("raise(0), none less", x.raise(0), -1);
        DUE.is("raise(1), as so", x.raise(1), 106);
        x = Due.court(0, 9, 0, 8, 14, 7);
        // now 40 + 34 + 56; 0 with 2: 80 + 26 + 20; 1 with 2: 40 + 68 + 20
        DUE.is("raise(0) of three", x.raise(0), 2);
        DUE.is("raise(1) of three", x.raise(1), 126);
        x = Due.court(0, 9, 14, 8, 14, 8);
        // now 40 + 68 + 40; by changing 0 with 1 or with 2 80 + 26 + 40
        DUE.is("raise(0), of like ones the first", x.raise(0), 1);
        DUE.is("raise(1), of like ones", x.raise(1), 146);
        x = Due.court(0, 9, 0, 8, 0, 7);
        DUE.is("raise(0), all alike", x.raise(0), -1);
        DUE.is("raise(1), all alike", x.raise(1), 102);
        x = Due.court(0, 99, 0, 9, 14, 5);
        x.put(0, 0, 99);
        // 1 with 2: 40 + 68 + 20, 0 with 2 is better: 80 + 26 + 20
        DUE.is("raise(0), the best of all", x.raise(0), 2);
        DUE.is("raise(0) of nobody", new SoupByRank().raise(0), -1);
        DUE.is("raise(1) of nobody", new SoupByRank().raise(1), 0);
        DUE.is("raise(2)", x.raise(2), -100000);
        DUE.is("raise(-1)", x.raise(-1), -100000);
        x = Due.court(50, 99, 0, 9, 14, 9);
        x.put(2, 0, 8);
        // now 0 + 40 + 68; 0 with 2: 80 + 26 + 0; 1 with 2: 0 + 80 + 26
        DUE.is("raise(0), a LOVER", x.raise(0), 2);
        DUE.is("raise(1), a LOVER", x.raise(1), 106);
        x = Due.court(50, 99, 14, 5, 0, 9);
        // now 0 + 40 + 68; 0 with 1: 80 + 26 + 0, as much as by 1 with 2, 0 + 80 + 26
        DUE.is("raise(0), the lesser pair", x.raise(0), 1);
        x.put(0, 0, 8);
        // now 40 + 0 + 68; 0 with 1: 40 + 68 + 0; 0 with 2: 0 + 40 + 68; 1 with 2: 80 + 0 + 26
        DUE.is("raise(0), the pair 12", x.raise(0), 12);
        DUE.is("raise(1), the pair 12", x.raise(1), 106);
    }

    private static void promise16Exile() {
        SoupByRank x = Due.court(0, 9, 0, 8);
        DUE.is("exile(0), of like ones the first", x.exile(0), 0);
        DUE.is("exile(1)", x.exile(1), 40);
        DUE.is("nobody is gone", x.count(0), 2);
        x = Due.court(0, 9, 0, 8, 14, 7);
        // without 0 or 1: 40 + 68; without 2: 40 + 34
        DUE.is("exile(0) of three", x.exile(0), 2);
        DUE.is("exile(1) of three", x.exile(1), 74);
        x = Due.court(55, 9);
        DUE.is("exile(0), none less", x.exile(0), -1);
        DUE.is("exile(1), as so", x.exile(1), -5);
        x = Due.court(0, 9);
        DUE.is("exile(0) of one", x.exile(0), 0);
        DUE.is("exile(1) of one", x.exile(1), 0);
        // without 0, the other one is DOWN 0, likes it at 90
        x = Due.under(Due.court(50, 9, 0, 8), "cools 2;waits 3;likes 90-down*40;");
        DUE.is("exile(0) by down", x.exile(0), 0);
        DUE.is("exile(1) by down", x.exile(1), 0);
        x = Due.court(0, 9, 0, 8);
        DUE.is("exile(1) ahead of other thoughts", x.exile(1), 40);
        DUE.is("all are there in other thoughts", x.cook(1), 6);
        DUE.is("exile(0) of nobody", new SoupByRank().exile(0), -1);
        DUE.is("exile(1) of nobody", new SoupByRank().exile(1), 0);
        DUE.is("exile(2)", x.exile(2), -100000);
        DUE.is("exile(-1)", x.exile(-1), -100000);
    }

    private static void promise17Seat() {
        SoupByRank x = Due.court(0, 9, 0, 5);
        DUE.is("seat(1, 0)", x.seat(1, 0), 0);
        DUE.is("seat(1, 1)", x.seat(1, 1), 34);
        x.brings(1, 50);
        DUE.is("seat(1, 0), to be the best", x.seat(1, 0), 10);
        DUE.is("seat(1, 1), to be the best", x.seat(1, 1), 0);
        DUE.is("seat(0, 0), to be the best by number", x.seat(0, 0), 5);
        DUE.is("seat(0, 1), to be the best by number", x.seat(0, 1), 0);
        DUE.is("RANK stays", x.told(1, 0), 5);
        x.put(0, 0, 98);
        DUE.is("seat(1, 0), to be the best by 99", x.seat(1, 0), 99);
        x = Due.under(Due.court(0, 9, 0, 9, 0, 9, 0, 9, 0, 5), "cools 0;waits 20;likes 50;");
        DUE.is("seat, one never begins", x.seat(4, 0), 0);
        DUE.is("seat, 10 if one never begins", x.seat(4, 1), 10);
        x.brings(1, 55);
        DUE.is("seat, better to begin", x.seat(4, 0), 10);
        DUE.is("seat, less than 10", x.seat(4, 1), 5);
        x = Due.under(Due.court(0, 9), "cools 0;waits 20;likes rank;");
        DUE.is("seat by rank", x.seat(0, 0), 90);
        DUE.is("seat by rank, that", x.seat(0, 1), 0);
        DUE.is("seat of a LOVER", Due.court(57, 3).seat(0, 1), -7);
        DUE.is("seat, none such", x.seat(1, 0), -5000);
        DUE.is("seat, none such, -1", x.seat(-1, 0), -5000);
        DUE.is("seat, none such ahead of what", x.seat(1, 2), -5000);
        DUE.is("seat, what 2", x.seat(0, 2), -7000);
        DUE.is("seat, what -1", x.seat(0, -1), -7000);
    }

    private static void promise18Order() {
        SoupByRank x = Due.court(0, 50, 14, 60);
        DUE.is("order(0)", x.order(0), 21);
        DUE.is("order(1)", x.order(1), 106);
        DUE.is("RANK stays", x.told(1, 0), 60);
        x = Due.court(0, 1, 0, 2, 0, 3, 0, 4, 0, 5, 0, 6);
        DUE.is("order(0), of like ones the first", x.order(0), 123456);
        DUE.is("order(1), of like ones", x.order(1), 40 + 34 + 28 + 22 + 16 + 10);
        x = Due.court(0, 1, 0, 2, 14, 3);
        // the EARL first: 80 + 26 + 20; second: 40 + 68 + 20; last: 40 + 34 + 56
        DUE.is("order(0) of three", x.order(0), 312);
        DUE.is("order(1) of three", x.order(1), 126);
        // the last order by digits: each waits less, the higher the number
        x = Due.under(Due.court(0, 1, 1, 2, 2, 3, 3, 4, 4, 5, 5, 6), "cools 1;waits more;likes 10;");
        DUE.is("order(0), the last one", x.order(0), 654321);
        DUE.is("order(1), the last one", x.order(1), 80 + 75 + 71 + 68 + 66 + 65);
        // ranks are 2 and 1, so that 90 and 89 are liked
        x = Due.under(Due.court(0, 50, 0, 60), "cools 2;waits 3;likes 88+rank;");
        DUE.is("order(1) by rank", x.order(1), 5);
        DUE.is("order(0) of one", Due.court(0, 9).order(0), 1);
        DUE.is("order(0) of nobody", new SoupByRank().order(0), 0);
        DUE.is("order(1) of nobody", new SoupByRank().order(1), 0);
        DUE.is("order(2)", x.order(2), -100000);
        DUE.is("order(-1)", x.order(-1), -100000);
    }

    private static void promise19Mean() {
        SoupByRank x = Due.court(0, 9, 0, 8);
        DUE.is("mean(0)", x.mean(0), 87);
        DUE.is("mean(1)", x.mean(1), 1);
        DUE.is("mean(2)", x.mean(2), SoupByRank.NO);
        DUE.is("mean(-1)", x.mean(-1), SoupByRank.NO);
        Due.under(x, "cools 1;waits 1;likes 1;");
        DUE.is("mean(0), of 179 by 2", x.mean(0), 179);
        DUE.is("mean(1), of 179 by 2", x.mean(1), 2);
        x = Due.under(Due.court(0, 9, 0, 9, 0, 9, 0, 9, 0, 9), "cools (minute=0)*2;waits 20;likes 1;");
        // 90, 88, 88, 88 by 4; the fifth never begins
        DUE.is("mean(0), of 354 by 4", x.mean(0), 177);
        DUE.is("mean(1), of 354 by 4", x.mean(1), 2);
        x.brings(1, 0);
        DUE.is("mean(0) of nothing", x.mean(0), 0);
        DUE.is("mean(1) of nothing", x.mean(1), 1);
        x = Due.court(0, 9, 0, 9, 0, 9, 0, 9, 0, 9, 0, 9);
        DUE.is("mean(0) of six", x.mean(0), 75);
        DUE.is("mean(1) of six", x.mean(1), 1);
        x = Due.court(0, 9);
        x.image();
        x.courtier(0, 9);
        DUE.is("mean(0) of two", x.mean(0), 87);
        x.back();
        DUE.is("mean(0) after back", x.mean(0), 90);
        DUE.is("mean(0) of nobody", new SoupByRank().mean(0), SoupByRank.NO);
        DUE.is("mean(1) of nobody", new SoupByRank().mean(1), SoupByRank.NO);
    }

    public static void main(String[] args) {
        promise14Cook();
        promise15Raise();
        promise16Exile();
        promise17Seat();
        promise18Order();
        promise19Mean();
        DUE.end();
    }
}
