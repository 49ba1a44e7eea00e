/** The terms of TEXTS at their edges: tokens, what may stand where, what is open, what wraps around, the bounds. */
public final class TextEdgesTest {
    private static final Due DUE = new Due("TextEdgesTest");
    private static final String REST = ";waits 3;likes 50;";
    /** What no number of the tape can say by itself: the greatest int, and the least. */
    private static final String GREATEST = "(9999*9999*21+9999*4790+8416)";
    private static final String LEAST = "(0-9999*9999*21-9999*4790-8416-1)";

    private static int text(String tape) {
        SoupByRank x = Made.none();
        Made.write(x, tape);
        int answer = x.text();
        DUE.is("bytes on THE TAPE after '" + tape + "'", x.count(5), 0);
        DUE.is("TEXTS after '" + tape + "'", x.count(3), answer < 0 ? 1 : 2);
        DUE.is("THE LAW after '" + tape + "'", x.count(4), 0);
        return answer;
    }

    private static void fault(String tape, int place) {
        DUE.is("text '" + tape + "'", text(tape), -100 - place);
    }

    private static void taken(String tape) {
        DUE.is("text '" + tape + "'", text(tape), 1);
    }

    /** What a part says, heat being 12, the minute 34, down 5, of nobody. */
    private static void says(int part, String expression, int value) {
        SoupByRank x = Made.none();
        String[] three = {"2", "3", "50"};
        three[part] = expression;
        Made.write(x, "cools " + three[0] + ";waits " + three[1] + ";likes " + three[2] + ";");
        DUE.is("text of " + expression, x.text(), 1);
        x.force(1);
        DUE.is(expression, x.asks(part, -1, 12, 34, 5), value);
    }

    private static void says(String expression, int value) {
        says(0, expression, value);
    }

    // ---- tokens

    private static boolean isWord(int b) {
        return b >= 'a' && b <= 'z';
    }

    private static boolean isNumber(int b) {
        return b >= '0' && b <= '9';
    }

    /** Every byte there is, at every kind of place. */
    private static void bytes() {
        for (int b = 0; b < 256; b++) {
            String c = String.valueOf((char) b);
            boolean isBlank = b == 32 || b == 10;
            boolean isSign = "();+-*<=".indexOf(b) >= 0;
            // ahead of all
            if (isBlank) {
                taken(c + "cools 2" + REST);
            } else {
                fault(c + "cools 2" + REST, 0);
            }
            // behind all
            if (isBlank) {
                taken("cools 2" + REST + c);
            } else {
                fault("cools 2" + REST + c, 25);
            }
            // in the midst of a WORD: 'minute' is one no more
            fault("cools min" + c + "ute" + REST, 6);
            if (!isBlank && !isSign && !isNumber(b) && !isWord(b)) {
                fault("cools heat" + c + REST, 10);
                fault("cools " + c + "heat" + REST, 6);
                fault("cools 12" + c + REST, 8);
                fault("cools " + c + "12" + REST, 6);
                fault("cools 1" + c + "2" + REST, 7);
                fault("cools 1+" + c + REST, 8);
            }
        }
        for (String c : new String[] {" ", "\n"}) {
            fault("cools 1" + c + "2" + REST, 8);
            says(c + c + "1" + c + "+" + c + "2" + c, 3);
            says("(" + c + "1" + c + ")" + c + "<" + c + "-" + c + "2", 0);
        }
        taken("cools2;waits3;likes4;");
        taken("cools(2);waits-3;likes-(4);");
        says("1or 0and 0", 1);
        says("not1or 2", 1);
        says("not-0", 1);
    }

    private static void words() {
        for (String name : new String[] {"heat", "minute", "down", "rank", "mood", "more"}) {
            taken("cools " + name + REST);
            fault("cools " + name.substring(1) + REST, 6);
            fault("cools " + name.substring(0, name.length() - 1) + REST, 6);
            fault("cools " + name + "a" + REST, 6);
            fault("cools " + name + "z" + REST, 6);
            fault("cools " + name + name + REST, 6);
            fault("cools 1 " + name + REST, 8);
            fault(name + " 2" + REST, 0);
        }
        for (String key : new String[] {"cools", "waits", "likes", "or", "and"}) {
            fault("cools " + key + REST, 6);
            fault("cools 1+" + key + REST, 8);
        }
        for (String key : new String[] {"cools", "waits", "likes", "not"}) {
            fault("cools 1 " + key + REST, 8);
        }
        for (String wrong : new String[] {"a", "z", "o", "ors", "nor", "an", "ands", "no", "nott", "abcdefg"}) {
            fault("cools " + wrong + REST, 6);
            fault("cools 1 " + wrong + " 1" + REST, 8);
        }
        for (String key : new String[] {"cool", "coolss", "coolsss", "dools", "coolz", "waits", "likes", "heat",
            "or", "not", "c", "abcdefg"}) {
            fault(key + " 2" + REST, 0);
        }
    }

    private static void numbers() {
        says("0", 0);
        says("0000", 0);
        says("0009", 9);
        says("9999*0+7", 7);
        says("9999-9901", 98);
        fault("cools 10000" + REST, 6);
        fault("cools 00000" + REST, 6);
        fault("cools 99999" + REST, 6);
        fault("cools 1+12345" + REST, 8);
        fault("cools 123456789012345678901234567890" + REST, 6);
        fault("cools 9999 9999" + REST, 11);
        fault("cools 2;waits 3;likes 00050;", 22);
    }

    // ---- what may stand where

    /** The text's size, if it ends too early; where a WORD is cut it is none, so the WORD's first byte. */
    private static void endsTooEarly() {
        String whole = "cools (1+22) * -3 ;waits not heat < 4 or 1 ;likes - ( 5 = 6 ) and 7 ;";
        taken(whole);
        taken(whole + "\n");
        for (int size = 0; size < whole.length(); size++) {
            String cut = whole.substring(0, size);
            int word = size;
            while (word > 0 && isWord(whole.charAt(word - 1))) {
                word--;
            }
            boolean isCut = word < size && isWord(whole.charAt(size));
            fault(cut, isCut ? word : size);
            fault(cut + " \n", isCut ? word : size + 2);
        }
        fault("", 0);
        fault(" ", 1);
        fault("\n\n", 2);
    }

    private static void places() {
        String[] ones = {"1", "heat", "-1", "(1)"};
        for (String one : ones) {
            String ahead = "cools " + one;
            int size = ahead.length();
            // behind a ONE there may be an end, a sign or a word that joins, no other ONE (a - joins)
            fault(ahead + " 1" + REST, size + 1);
            fault(ahead + " heat" + REST, size + 1);
            fault(ahead + " (1)" + REST, size + 1);
            fault(ahead + " not 1" + REST, size + 1);
            fault(ahead + ")" + REST, size);
            fault(ahead + " waits 3;likes 50;", size + 1);
            for (String sign : new String[] {"+", "-", "*", "<", "=", " or ", " and "}) {
                taken(ahead + sign + one + REST);
                fault(ahead + sign + ";", size + sign.length());
                fault(ahead + sign + ")", size + sign.length());
                fault(ahead + sign + "*1" + REST, size + sign.length());
                fault(ahead + sign + "+1" + REST, size + sign.length());
                taken(ahead + sign + "-1" + REST);
            }
            for (String sign : new String[] {"+", "-", "*", "<", "="}) {
                fault(ahead + sign + "not 1" + REST, size + sign.length());
            }
            // one < or = at the most, but another one in a ( )
            for (String sign : new String[] {"<", "="}) {
                fault(ahead + "<1" + sign + "1" + REST, size + 2);
                fault(ahead + "=1" + sign + "1" + REST, size + 2);
                taken(ahead + "<(1" + sign + "1)" + REST);
                taken(ahead + "<1 or 1" + sign + "1" + REST);
                taken("cools not 1<1 and 1" + sign + "1" + REST);
            }
        }
        fault("cools -not 1" + REST, 7);
        fault("cools 1;;waits 3;likes 50;", 8);
        fault("cools 2" + REST + ";", 25);
        fault("cools 2" + REST + "cools 2" + REST, 25);
        fault("cools 2;cools 2;likes 50;", 8);
        fault("cools 2;likes 2;waits 50;", 8);
        fault("cools 2;waits 2;waits 50;", 16);
        fault("cools 1 # ( 12345", 8);
        fault("cools ) foo #", 6);
        fault("cools 12345 #", 6);
    }

    // ---- 5 open at the most

    private static void open() {
        String[] opens = {"(", "not ", "-"};
        for (String o : opens) {
            String closes = o.equals("(") ? ")" : "";
            for (int n = 1; n <= 5; n++) {
                taken("cools " + o.repeat(n) + "1" + closes.repeat(n) + REST);
            }
            fault("cools " + o.repeat(6) + "1" + closes.repeat(6) + REST, 6 + 5 * o.length());
            fault("cools " + o.repeat(7) + "1" + closes.repeat(7) + REST, 6 + 5 * o.length());
            // five of one kind, then another one
            String five = "cools " + o.repeat(5);
            fault(five + "(1)" + closes.repeat(5) + REST, five.length());
            fault(five + "-1" + closes.repeat(5) + REST, five.length());
            if (!o.equals("-")) {
                fault(five + "not 1" + closes.repeat(5) + REST, five.length());
            }
            // what has ended is open no more, in the next part too
            String done = o.repeat(5) + "1" + closes.repeat(5);
            for (String sign : new String[] {" or ", " and "}) {
                taken("cools " + done + sign + done + ";waits " + done + ";likes " + done + ";");
            }
        }
        taken("cools (((((1)))))+(((((1)))))*(((((1)))))<(((((1)))))" + REST);
        taken("cools -----1+-----1*-----1=-----1" + REST);
        taken("cools (1)+(1)+(1)+(1)+(1)+(1)+(1)" + REST);
        taken("cools 1-1-1-1-1-1-1-(-(-(2)))" + REST);
        taken("cools (((((1-1-1)))))" + REST);
        fault("cools (((((1--1)))))" + REST, 13);
        // a not is open till its NOT ends: behind the <, but not behind an and
        taken("cools not 1<((((1))))" + REST);
        fault("cools not 1<(((((1)))))" + REST, 16);
        taken("cools not 1 and (((((1)))))" + REST);
        taken("cools not 1 or (((((1)))))" + REST);
        fault("cools not not not 1=1+(((1)))" + REST, 24);
        // a - is open till its ONE ends: not behind the *
        taken("cools -1*(((((1)))))" + REST);
        taken("cools -(1)+(((((1)))))" + REST);
        fault("cools -(((((1)))))" + REST, 11);
        // a ( is open till its )
        fault("cools (1+(2)*(((((3))))))" + REST, 17);
        taken("cools (1+(2)*(((3))))+((((4))))" + REST);
        taken("cools (not -(not 1))" + REST);
        fault("cools (not -(not -1))" + REST, 17);
        fault("cools (not -(not (1)))" + REST, 17);
        fault("cools (not -(not not 1))" + REST, 17);
        fault("cools " + "(".repeat(154), 11);
    }

    // ---- what is said

    private static void oneOrZero() {
        says("(3 or 0)*7", 7);
        says("(0 or 3)*7", 7);
        says("(3 or 4)*7", 7);
        says("(0 or 0)+7", 7);
        says("(3 and 4)*7", 7);
        says("(0 and 4)+7", 7);
        says("(4 and 0)+7", 7);
        says("(0 and 0)+7", 7);
        says("(not 0)*7", 7);
        says("(not 4)+7", 7);
        says("(1<2)*7", 7);
        says("(2<2)+7", 7);
        says("(3<2)+7", 7);
        says("(2=2)*7", 7);
        says("(2=3)+7", 7);
        says("(3=2)+7", 7);
        // what is not 0 is true, below 0 too
        says("(not -1)+7", 7);
        says("(-1 and -2)*7", 7);
        says("(0 or -1)*7", 7);
        says("(not " + LEAST + ")+7", 7);
        says("(" + LEAST + " and 1)*7", 7);
        says("(0 or " + GREATEST + ")*7", 7);
        says("not(4096*4096*256)", 1);
    }

    private static void wrapsAround() {
        says("0<" + GREATEST, 1);
        says(LEAST + "<0", 1);
        says(GREATEST + "+1=" + LEAST, 1);
        says(LEAST + "-1=" + GREATEST, 1);
        says("-" + LEAST + "=" + LEAST, 1);
        says("-" + GREATEST + "-1=" + LEAST, 1);
        says(GREATEST + "*2", 0);
        says(GREATEST + "*2+9", 7);
        says(LEAST + "*2+9", 9);
        says(LEAST + "*-1=" + LEAST, 1);
        says("4096*4096*256+7", 7);
        says("4096*4096*128=" + LEAST, 1);
        says("9999*9999*43", 99);
        says("9999*9999*43=4172*1000+747", 1);
        // < looks at both, not at what one is less the other
        says(LEAST + "<" + GREATEST, 1);
        says(GREATEST + "<" + LEAST, 0);
        says(LEAST + "<1", 1);
        says("1<" + LEAST, 0);
        says(GREATEST + "<-1", 0);
        says("-2<" + GREATEST, 1);
        // the bound is of what has wrapped
        says(0, GREATEST + "+1", 0);
        says(0, LEAST + "-1", 99);
        says(1, GREATEST + "+1", 0);
        says(1, LEAST + "-1", 20);
        says(2, GREATEST + "+1", 0);
        says(2, LEAST + "-1", 99);
    }

    private static void bounds() {
        int[] most = {99, 20, 99};
        for (int part = 0; part < 3; part++) {
            says(part, "-9999", 0);
            says(part, "-1", 0);
            says(part, "0", 0);
            says(part, "1", 1);
            says(part, "" + (most[part] - 1), most[part] - 1);
            says(part, "" + most[part], most[part]);
            says(part, "" + (most[part] + 1), most[part]);
            says(part, "9999", most[part]);
            says(part, "heat", 12);
            says(part, "minute-30", 4);
            says(part, "down", 5);
            says(part, "rank*2+mood*3+more*4+9", 9);
        }
    }

    public static void main(String[] args) {
        bytes();
        words();
        numbers();
        endsTooEarly();
        places();
        open();
        oneOrZero();
        wrapsAround();
        bounds();
        DUE.end();
    }
}
