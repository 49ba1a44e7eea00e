/** Promises 30 to 34: the host. What stands in a cell is seen by judge: of one COURTIER it tells HEAT. */
public final class HostTest {
    private static final Due DUE = new Due("HostTest");

    private static void promise30Sheet() {
        SoupByRank x = new SoupByRank();
        DUE.is("sheet(0, 0, 40)", x.sheet(0, 0, 40), 1);
        DUE.is("its last place", x.cell(0, 39, 1), 1);
        DUE.is("behind it", x.cell(0, 40, 1), -12);
        DUE.is("sheet(0, 1, 0)", x.sheet(0, 1, 0), 1);
        DUE.is("no place", x.cell(0, 0, 1), -12);
        DUE.is("n 41", x.sheet(0, 2, 41), -2);
        DUE.is("n -1", x.sheet(0, 2, -1), -14);
        DUE.is("sort 3", x.sheet(0, 3, 1), -2);
        DUE.is("sort -2", x.sheet(0, -2, 1), -2);
        DUE.is("sort 3 ahead of n -1", x.sheet(0, 3, -1), -2);
        DUE.is("SHEET 4", x.sheet(4, 0, 1), -2);
        DUE.is("SHEET -1", x.sheet(-1, 0, 1), -2);
        DUE.is("refusals change nothing", x.judge(0), -1);
        DUE.is("missing, n -9", x.sheet(0, -1, -9), 1);
        DUE.is("it is missing", x.judge(0), -11);
        DUE.is("missing, n 99", x.sheet(0, -1, 99), 1);
        x = Due.court(0, 9);
        x.brings(1, 0);
        Due.fill(x, 1, 7, 8, 9);
        DUE.is("a new row", x.sheet(1, 2, 1), 1);
        DUE.is("is all 0", x.judge(1), -1);
        DUE.is("sheets apart", x.judge(0), -11);
    }

    /** What a cell of a sort holds of v, where that is 0 to 99. */
    private static void holds(int sort, int v, int held) {
        SoupByRank x = Due.court(0, 9);
        x.brings(1, held);
        x.sheet(0, sort, 1);
        DUE.is("cell of " + v, x.cell(0, 0, v), 1);
        DUE.is("sort " + sort + " holds of " + v + " " + held, x.judge(0), -1);
    }

    private static void promise31Cell() {
        holds(0, 42, 42);
        holds(0, 256 + 42, 42);
        holds(0, -256 + 42, 42);
        holds(1, 65536 + 42, 42);
        holds(1, -65536 + 42, 42);
        holds(2, 42, 42);
        SoupByRank x = Due.court(0, 9);
        x.brings(1, 42);
        x.sheet(0, 1, 1);
        x.cell(0, 0, 256 + 42);
        DUE.is("shorts hold more than 8 bits", x.judge(0), 0);
        x.sheet(0, 2, 1);
        x.cell(0, 0, 65536 + 42);
        DUE.is("ints hold more than 16 bits", x.judge(0), 0);
        x.sheet(0, 2, 3);
        DUE.is("place 2", x.cell(0, 2, 9), 1);
        DUE.is("place 3", x.cell(0, 3, 9), -12);
        DUE.is("place -1", x.cell(0, -1, 9), -12);
        DUE.is("place far away", x.cell(0, Integer.MAX_VALUE, 9), -12);
        DUE.is("missing ahead of the place", x.cell(1, -1, 9), -11);
        DUE.is("SHEET 4", x.cell(4, 0, 9), -2);
        DUE.is("SHEET -1", x.cell(-1, 0, 9), -2);
        // bytes have signs: of one who never begins 255 tells -1
        x = Due.under(Due.court(0, 9, 0, 8, 0, 7, 0, 6, 0, 5), "cools 0;waits 20;likes 85;");
        x.film(0);
        x.cell(0, 4, 255);
        DUE.is("255 is -1", x.judge(0), -1);
    }

    private static void promise32Copy() {
        SoupByRank x = Due.court(10, 9, 10, 8, 10, 7, 10, 6);
        // 90, 84, 78, 72 are as due: see which cells are so
        Due.fill(x, 0, 90, 84, 78, 72);
        x.sheet(1, 2, 4);
        DUE.is("copy", x.copy(0, 0, 1, 0, 3), 3);
        DUE.is("three are there", x.judge(1), 3);
        DUE.is("copy one more", x.copy(0, 3, 1, 3, 1), 1);
        DUE.is("all are there", x.judge(1), -1);
        DUE.is("the source stays", x.judge(0), -1);
        Due.fill(x, 2, 84, 78, 72, 0, 0);
        DUE.is("copy on itself, to the right", x.copy(2, 0, 2, 1, 4), 4);
        x.cell(2, 0, 90);
        x.sheet(3, 2, 4);
        x.copy(2, 0, 3, 0, 4);
        DUE.is("as they were, to the right", x.judge(3), -1);
        Due.fill(x, 2, 1, 90, 84, 78, 72);
        DUE.is("copy on itself, to the left", x.copy(2, 1, 2, 0, 4), 4);
        x.copy(2, 0, 3, 0, 4);
        DUE.is("as they were, to the left", x.judge(3), -1);
        DUE.is("none", x.copy(0, 4, 1, 4, 0), 0);
        DUE.is("none, from behind", x.copy(0, 5, 1, 0, 0), -12);
        DUE.is("none, to behind", x.copy(0, 0, 1, 5, 0), -12);
        DUE.is("n -1", x.copy(0, 0, 1, 0, -1), -12);
        DUE.is("i -1", x.copy(0, -1, 1, 0, 1), -12);
        DUE.is("j -1", x.copy(0, 0, 1, -1, 1), -12);
        DUE.is("too many from", x.copy(0, 2, 1, 0, 3), -12);
        DUE.is("too many to", x.copy(0, 0, 1, 2, 3), -12);
        DUE.is("far too many", x.copy(0, 2, 1, 2, Integer.MAX_VALUE), -12);
        DUE.is("from far away", x.copy(0, Integer.MAX_VALUE, 1, 0, Integer.MAX_VALUE), -12);
        DUE.is("to far away", x.copy(0, 0, 1, Integer.MAX_VALUE, 1), -12);
        x.sheet(2, 1, 9);
        DUE.is("unlike sorts", x.copy(0, 0, 2, 0, 1), -13);
        DUE.is("unlike sorts ahead of places", x.copy(0, -1, 2, 0, -1), -13);
        x.sheet(2, -1, 0);
        DUE.is("to a missing one", x.copy(0, -1, 2, 0, 1), -11);
        DUE.is("from a missing one", x.copy(2, -1, 0, 0, 1), -11);
        DUE.is("SHEET 4", x.copy(4, 0, 2, 0, 1), -2);
        DUE.is("to SHEET -1", x.copy(2, 0, -1, 0, 1), -2);
    }

    private static void promise33CourtBy() {
        SoupByRank x = new SoupByRank();
        Due.fill(x, 0, 8, 47, 99, 60, 5, 14, 100, 31, 98);
        DUE.is("from 1 on, one of three is left out", x.courtBy(0, 2, 1, 3), 1);
        DUE.is("who came", x.told(0, 2) * 1000 + x.told(0, 3) * 100 + x.told(0, 0), 4799);
        DUE.is("none of none", x.courtBy(0, 2, 1, 0), 0);
        DUE.is("the place of the last pair", x.courtBy(0, 2, 7, 1), 1);
        DUE.is("half a pair", x.courtBy(0, 2, 8, 1), -12);
        DUE.is("what stood ahead came", x.courtBy(0, 2, 7, 2), -12);
        DUE.is("so many are there", x.count(0), 3);
        DUE.is("from -1 on", x.courtBy(0, 2, -1, 1), -12);
        DUE.is("from far away", x.courtBy(0, 2, Integer.MAX_VALUE, 1), -12);
        DUE.is("from far below", x.courtBy(0, 2, Integer.MIN_VALUE, 6), -12);
        Due.fill(x, 1, 1, 1, 2, 2, 3, 3, 4, 4, 5, 5, 6, 6);
        DUE.is("till there is no room", x.courtBy(1, 2, 0, 6), 3);
        DUE.is("the last who came", x.told(5, 3), 3);
        DUE.is("no room for any", x.courtBy(1, 2, 0, 6), 0);
        DUE.is("no room, then no place", x.courtBy(1, 2, 2, 6), -12);
        DUE.is("sort 1", x.courtBy(0, 1, -1, 1), -13);
        DUE.is("missing", x.courtBy(3, 1, -1, 1), -11);
        DUE.is("sort 3", x.courtBy(3, 3, 0, 1), -2);
        DUE.is("sort -1", x.courtBy(3, -1, 0, 1), -2);
        DUE.is("n 7", x.courtBy(3, 2, 0, 7), -2);
        DUE.is("n -1", x.courtBy(3, 2, 0, -1), -2);
        DUE.is("SHEET 4", x.courtBy(4, 2, 0, 1), -2);
        DUE.is("SHEET -1", x.courtBy(-1, 2, 0, 1), -2);
        x = new SoupByRank();
        x.sheet(0, 0, 2);
        x.cell(0, 0, 59);
        x.cell(0, 1, 99);
        DUE.is("by bytes", x.courtBy(0, 0, 0, 1), 1);
        x.sheet(0, 1, 2);
        DUE.is("by shorts", x.courtBy(0, 1, 0, 1), 1);
    }

    private static void promise34Taken() {
        int[] kinds = {0, 10, 20, 30, 40, 50};
        int[] also = {-1, 0, 0, 1, 2, 0};
        for (int k = 0; k < 6; k++) {
            SoupByRank x = Due.court(0, 1, kinds[k], 1);
            x.put(1, 1, 77);
            for (int as = 0; as < 6; as++) {
                boolean is = as == 0 || as == k || as == also[k];
                DUE.is("a " + k + " as a " + as, x.taken(1, as), is ? 1 : -13);
            }
            DUE.is("a " + k + " as a MOOD", x.taken(1, 6), -13);
            DUE.is("a MOOD as a MOOD", x.taken(7, 6), 77);
            DUE.is("a MOOD as a " + k, x.taken(7, k), -13);
        }
        SoupByRank x = Due.court(0, 1, 10, 1);
        DUE.is("nobody at 2", x.taken(2, 0), -11);
        DUE.is("nobody at 2, a MOOD", x.taken(2, 6), -11);
        DUE.is("no MOOD at 8", x.taken(8, 6), -11);
        DUE.is("no MOOD at 8, a COURTIER", x.taken(8, 0), -11);
        DUE.is("place 12", x.taken(12, 0), -12);
        DUE.is("place -1", x.taken(-1, 0), -12);
        DUE.is("kind 7", x.taken(12, 7), -2);
        DUE.is("kind -1", x.taken(12, -1), -2);
        x = Due.court(0, 1, 0, 1, 0, 1, 0, 1, 0, 1, 10, 1);
        x.put(5, 1, 88);
        DUE.is("the last place", x.taken(11, 6), 88);
        DUE.is("the last COURTIER", x.taken(5, 1), 5);
        DUE.is("the number 0", x.taken(0, 0), 0);
        DUE.is("the MOOD of 0", x.taken(6, 6), 500);
    }

    public static void main(String[] args) {
        promise30Sheet();
        promise31Cell();
        promise32Copy();
        promise33CourtBy();
        promise34Taken();
        DUE.end();
    }
}
