/** Looks at the edges of calls: the last values that are taken, the first ones that are refused. */
final class Edges {
    interface Maker {
        SoupByRank make();
    }

    interface Call {
        long of(SoupByRank x, int v);
    }

    private final Due due;

    Edges(Due due) {
        this.due = due;
    }

    void taken(String what, Maker of, Call call, int v, long answer) {
        due.is(what + " by " + v, call.of(of.make(), v), answer);
    }

    /** It answers so, and all stands as before: a refused call, or one that only asks. */
    void still(String what, Maker of, Call call, int v, long answer) {
        SoupByRank x = of.make();
        due.is(what + " by " + v, call.of(x, v), answer);
        due.is(what + " by " + v + ": all stands as before", View.of(x).equals(View.of(of.make())) ? 1 : 0, 1);
    }

    void below(String what, Maker of, Call call, int least, long atLeast, long refusal) {
        taken(what, of, call, least, atLeast);
        still(what, of, call, least - 1, refusal);
        still(what, of, call, Integer.MIN_VALUE, refusal);
    }

    void above(String what, Maker of, Call call, int most, long atMost, long refusal) {
        taken(what, of, call, most, atMost);
        still(what, of, call, most + 1, refusal);
        still(what, of, call, Integer.MAX_VALUE, refusal);
    }

    void within(String what, Maker of, Call call, int least, long atLeast, int most, long atMost, long refusal) {
        below(what, of, call, least, atLeast, refusal);
        above(what, of, call, most, atMost, refusal);
    }
}
