/** Objects made ready for the tests of edges: new, in the midst, all places taken. */
final class Made {
    private Made() { }

    /** Nobody, nothing. */
    static SoupByRank none() {
        return new SoupByRank();
    }

    /**
     * Three of six courtiers, three of six texts, 20 bytes of the tape, an image of other days, three sheets of four.
     * Courtier 1 begins at 0, gets it at 77, minds 9; 2 at 3, at 74, minds 25; 0 at 9, at 68, minds 31.
     */
    static SoupByRank some() {
        SoupByRank x = Due.court(14, 40, 23, 50);
        x.put(0, 1, 480);
        x.brings(0, 3);
        x.brings(1, 60);
        x.image();
        x.courtier(36, 50);
        x.put(0, 0, 41);
        x.put(1, 1, 999);
        x.put(2, 1, 0);
        x.brings(0, 5);
        x.brings(1, 77);
        write(x, "cools 1;waits more;likes mood;");
        x.text();
        write(x, "cools heat;waits minute;likes down*16;");
        x.text();
        x.force(1);
        write(x, "cools 11;waits 12;li");
        fill(x, 0, 0, 14, 40, 25, 50, 36, 60);
        fill(x, 1, 1, 1, 2, 3, 4);
        fill(x, 2, 2, 68, 77, 74);
        return x;
    }

    /** Six courtiers, six texts, 160 bytes of the tape, an image, four sheets of 40. */
    static SoupByRank full() {
        SoupByRank x = Due.court(14, 40, 23, 50);
        x.image();
        x.courtier(32, 60);
        x.courtier(41, 70);
        x.courtier(50, 80);
        x.courtier(9, 90);
        for (int t = 1; t < 6; t++) {
            write(x, "cools " + t + ";waits " + t + ";likes " + t + "0;");
            x.text();
        }
        x.force(5);
        write(x, "cools 7;waits 8;likes 9;" + " ".repeat(136));
        for (int s = 0; s < 4; s++) {
            x.sheet(s, s % 3, 40);
            int[] cells = {14 + s, 40, 25, 50 + s, 36, 60};
            for (int i = 0; i < cells.length; i++) {
                x.cell(s, i, cells[i]);
            }
            x.cell(s, 38, 58);
            x.cell(s, 39, 90 + s);
        }
        return x;
    }

    /**
     * A COURTIER and, behind it, an EARL with MORE 4; sheets 0 and 3 tell of this supper (90, 84), 1 of three, 2 is
     * missing. 0 minds 40, 1 68; the EARL first, 80 and 26.
     */
    static SoupByRank two() {
        SoupByRank x = Due.court(0, 9, 14, 8);
        fill(x, 0, 0, 90, 84);
        fill(x, 1, 2, 90, 84, 78);
        fill(x, 3, 2, 90, 84);
        return x;
    }

    /** Of five who wait for 20 minutes each, 4 never begins; it stays at 90, all like it at 85. */
    static SoupByRank tooMany() {
        return Due.under(Due.court(0, 9, 0, 8, 0, 7, 0, 6, 0, 5), "cools 0;waits 20;likes 85;");
    }

    /** So many bytes on the tape: blanks. */
    static SoupByRank tape(int size) {
        SoupByRank x = new SoupByRank();
        write(x, " ".repeat(size));
        return x;
    }

    /** Five bytes a call, as an object is used for some 500 calls alone. */
    static void write(SoupByRank x, String tape) {
        for (int at = 0; at < tape.length(); at += 5) {
            int[] five = new int[5];
            int n = Math.min(5, tape.length() - at);
            for (int i = 0; i < n; i++) {
                five[i] = tape.charAt(at + i);
            }
            x.feed(n, five[0], five[1], five[2], five[3], five[4]);
        }
    }

    static void fill(SoupByRank x, int s, int sort, int... cells) {
        x.sheet(s, sort, cells.length);
        for (int i = 0; i < cells.length; i++) {
            x.cell(s, i, cells[i]);
        }
    }
}
