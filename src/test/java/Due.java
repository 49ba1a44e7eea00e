/** Counts the answers that are not as due; ends the test with exit code 1 if there was one. */
final class Due {
    private final String name;
    private int looked, wrong;

    Due(String name) {
        this.name = name;
    }

    void is(String what, long got, long want) {
        looked++;
        if (got != want) {
            wrong++;
            System.out.println(name + ": " + what + " is " + got + ", due is " + want);
        }
    }

    void end() {
        System.out.println(name + ": " + (looked - wrong) + " of " + looked + " as due");
        if (wrong > 0 || looked == 0) {
            System.exit(1);
        }
    }

    // ---- objects made ready

    /** A new court: a kind with MORE and a rank for each one, two by two. */
    static SoupByRank court(int... kindsAndRanks) {
        SoupByRank x = new SoupByRank();
        for (int i = 0; i + 1 < kindsAndRanks.length; i += 2) {
            x.courtier(kindsAndRanks[i], kindsAndRanks[i + 1]);
        }
        return x;
    }

    static void feed(SoupByRank x, String tape) {
        for (int i = 0; i < tape.length(); i++) {
            x.feed(1, tape.charAt(i), 0, 0, 0, 0);
        }
    }

    static int text(SoupByRank x, String tape) {
        feed(x, tape);
        return x.text();
    }

    /** The text is read and is THE LAW from then on. */
    static SoupByRank under(SoupByRank x, String tape) {
        x.force(text(x, tape));
        return x;
    }

    /** A sheet of ints with these numbers. */
    static void fill(SoupByRank x, int s, int... cells) {
        x.sheet(s, 2, cells.length);
        for (int i = 0; i < cells.length; i++) {
            x.cell(s, i, cells[i]);
        }
    }
}
