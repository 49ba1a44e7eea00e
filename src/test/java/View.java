import java.util.ArrayList;
import java.util.List;

/**
 * All that can be seen of an object, as a row of answers: two objects with like rows stand alike. To see what no call
 * only asks for (what texts say, what stands on the tape, in the image, in the cells), the object is used up.
 */
final class View {
    private static final int[] SIZES = {0, 1, 2, 3, 4, 5, 6, 7, 39, 40};
    private static final int[] PAIRS = {0, 2, 4, 38};

    private final SoupByRank x;
    private final List<Long> seen = new ArrayList<>();

    private View(SoupByRank x) {
        this.x = x;
    }

    static List<Long> of(SoupByRank x) {
        View v = new View(x);
        v.court(9);
        v.sheets();
        v.texts();
        v.tape();
        v.see(x.back());
        v.court(4);
        v.cells();
        return v.seen;
    }

    private void see(long answer) {
        seen.add(answer);
    }

    private void court(int most) {
        for (int what = 0; what < 6; what++) {
            see(x.count(what));
        }
        for (int p = 0; p < 6; p++) {
            for (int what = 0; what < most; what++) {
                see(x.told(p, what));
            }
        }
    }

    private void sheets() {
        for (int s = 0; s < 4; s++) {
            see(x.judge(s));
            for (int sort = 0; sort < 3; sort++) {
                see(x.courtBy(s, sort, 0, 0));
            }
            for (int size : SIZES) {
                see(x.copy(s, size, s, size, 0));
            }
        }
    }

    private void texts() {
        int law = x.count(4);
        for (int t = 0; t < 6; t++) {
            see(x.force(t));
            law();
        }
        x.force(law);
    }

    private void law() {
        for (int part = 0; part < 3; part++) {
            see(x.asks(part, 0, 50, 7, 2));
        }
    }

    /** Told by what is a text together with what Made.some() has there. */
    private void tape() {
        see(x.feed(3, 'k', 'e', 's', 0, 0));
        see(x.feed(4, ' ', '1', '3', ';', 0));
        int t = x.text();
        see(t);
        see(x.force(t));
        law();
    }

    private void cells() {
        for (int s = 0; s < 4; s++) {
            for (int from : PAIRS) {
                for (int sort = 0; sort < 3; sort++) {
                    see(x.courtBy(s, sort, from, 1));
                }
                int last = x.count(0) - 1;
                see(x.told(last, 0));
                see(x.told(last, 2));
                see(x.told(last, 3));
                x.back();
            }
        }
    }
}
