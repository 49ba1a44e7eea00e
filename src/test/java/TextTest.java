/** Promise 5: how a text is read, where its fault is, what it says. */
public final class TextTest {
    private static final Due DUE = new Due("TextTest");
    private static final String REST = ";waits 3;likes 50;";

    private static void fault(String tape, int place) {
        SoupByRank x = new SoupByRank();
        DUE.is("text '" + tape + "'", Due.text(x, tape), -100 - place);
        DUE.is("the tape after '" + tape + "'", x.count(5), 0);
        DUE.is("texts after '" + tape + "'", x.count(3), 1);
    }

    /** What is said by an expression of cools, heat being 12, the minute 34, down 5. */
    private static void says(String expression, int value) {
        SoupByRank x = new SoupByRank();
        DUE.is("text of " + expression, Due.text(x, "cools " + expression + REST), 1);
        DUE.is("the tape after " + expression, x.count(5), 0);
        x.force(1);
        DUE.is(expression, x.asks(0, -1, 12, 34, 5), value);
    }

    private static void values() {
        says("7", 7);
        says("0099", 99);
        says("9999", 99);
        says("0-5", 0);
        says("1+2*3", 7);
        says("(1+2)*3", 9);
        says("10-3-2", 5);
        says("20-3*4-2", 6);
        says("2*3*4", 24);
        says("-2*-3", 6);
        says("- 2 + 5", 3);
        says("7--2", 9);
        says("1<2", 1);
        says("2<2", 0);
        says("3<2", 0);
        says("0-1<0", 1);
        says("2=2", 1);
        says("2=3", 0);
        says("1+1<3", 1);
        says("1<0+2", 1);
        says("(1<2)+(2<3)", 2);
        says("not 0", 1);
        says("not 5", 0);
        says("not not 5", 1);
        says("not 1<0", 1);
        says("not(1)<2", 0);
        says("3 or 0", 1);
        says("0 or 4", 1);
        says("0 or 0", 0);
        says("3 and 2", 1);
        says("3 and 0", 0);
        says("0 and 3", 0);
        says("1 or 0 and 0", 1);
        says("0 and 0 or 1", 1);
        says("not 0 and 0", 0);
        says("0 or 0 or 0 or 2", 1);
        says("3 and 3 and 3 and 0", 0);
        says("2 and 0-1", 1);
        says("heat", 12);
        says("minute", 34);
        says("down", 5);
        says("rank or mood or more", 0);
        says("heat*2+minute-down", 53);
        says("9999*9999*21+9999*4790+8416+1<0", 1);
        says("9999*9999*21+9999*4790+8416<0", 0);
        says("0<9999*9999*22", 0);
    }

    private static void blanksAndTokens() {
        SoupByRank x = new SoupByRank();
        DUE.is("blanks", Due.text(x, "\n cools\n 2 \n;\nwaits 3 ; likes 50 ; \n "), 1);
        DUE.is("none but those that part words", Due.text(x, "cools2;waits3;likes50;"), 2);
        DUE.is("a word behind a number", Due.text(x, "cools 2or 3and 4;waits 3;likes(50);"), 3);
        fault("cools\t2" + REST, 5);
        fault("cools 2\r" + REST, 7);
        fault("co ols 2" + REST, 0);
        fault("coolswaits 2" + REST, 0);
        fault("cools minutes" + REST, 6);
        fault("cools minut" + REST, 6);
        fault("cools Heat" + REST, 6);
        fault("cools notheat" + REST, 6);
        fault("cools minute2" + REST, 12);
        fault("cools 1 2" + REST, 8);
        fault("cools 12345" + REST, 6);
        fault("cools 00001" + REST, 6);
        fault("cools 2#" + REST, 7);
        fault("cools 2" + (char) 0 + REST, 7);
        fault("cools 2" + (char) 255 + REST, 7);
        fault("cools 2>1" + REST, 7);
        fault("`cools 2", 0);
        fault("dools 2" + REST, 0);
        fault("cools beat" + REST, 6);
        fault("cools heatz" + REST, 6);
        fault("cools heata" + REST, 6);
        fault("cools 9" + REST + "likesa", 25);
        fault("cools 1:" + REST, 7);
        fault("cools 1/" + REST, 7);
        x = new SoupByRank();
        DUE.is("a tape", Due.text(x, "coolswaits 12345"), -100);
        DUE.is("what stood on the tape ahead is gone", Due.text(x, "cools"), -105);
        DUE.is("and so are its digits", Due.text(x, "cools    123"), -112);
        DUE.is("and its blanks", Due.text(x, "cools "), -106);
        fault("{cools 2", 0);
    }

    private static void grammar() {
        fault("", 0);
        fault("   ", 3);
        fault("cools", 5);
        fault("cools 2", 7);
        fault("cools 2;", 8);
        fault("cools 2 ;waits 3;likes 50", 25);
        fault("cools 2 ;waits 3;likes 50  ", 27);
        fault("waits 2" + REST, 0);
        fault("cools 2;likes 3;waits 4;", 8);
        fault("cools 1;waits 1;likes 1;x", 24);
        fault("cools 1;waits 1;likes 1; ;", 25);
        fault("cools 1;waits 1;likes 1; cools", 25);
        fault("cools ;", 6);
        fault("cools cools 1;", 6);
        fault("cools (1;", 8);
        fault("cools (1", 8);
        fault("cools 1)" + REST, 7);
        fault("cools ()" + REST, 7);
        fault("cools 1 < 2 < 3" + REST, 12);
        fault("cools 1 = 2 < 3" + REST, 12);
        fault("cools 1 + not 2" + REST, 10);
        fault("cools - not 2" + REST, 8);
        fault("cools 1 < not 2" + REST, 10);
        fault("cools 1 not" + REST, 8);
        fault("cools not;", 9);
        fault("cools 1 or or 2" + REST, 11);
        fault("cools 1 and or 2" + REST, 12);
        fault("cools +1" + REST, 6);
        fault("cools *1" + REST, 6);
        fault("cools 2*" + REST, 8);
        fault("cools or 2" + REST, 6);
        fault("cools 2(3)" + REST, 7);
        fault("cools heat minute" + REST, 11);
        fault("cools 1;waits foo;", 14);
        fault("cools ; #", 6);
    }

    private static void openOnes() {
        says("(((((1)))))", 1);
        fault("cools ((((((1))))))" + REST, 11);
        says("- - -(0-4)", 4);
        says("- - - -(4)*0+4", 4);
        fault("cools - - - - -(4)" + REST, 15);
        says("0- - - - - -3", 3);
        fault("cools ------1" + REST, 11);
        says("not not not not not 0", 1);
        fault("cools not not not not not not 0" + REST, 26);
        says("(not(-(1)))", 0);
        fault("cools (not(-((1))))" + REST, 13);
        fault("cools (not(-(-1)))" + REST, 13);
        fault("cools (not((((1)))))" + REST, 13);
        fault("cools (((((not 1)))))" + REST, 11);
        fault("cools (((((-1)))))" + REST, 11);
        says("(((((3-1)))))", 2);
        fault("cools (((((3--1)))))" + REST, 13);
        says("(1)+(1)+(1)+(1)+(1)+(1)+(1)", 7);
        says("3+-1+-1+-1+-1+-1+-1+9", 6);
        says("not 0 and not 0 and not 0 and not 0 and not 0 and not 0", 1);
        says("-(-(-1))+-(-(-1))+5", 3);
        says("not (not 1) and ((((1))))", 1);
        // a not stays open till all that belongs to it has ended
        fault("cools not 1 < ((((( 1)))))" + REST, 18);
        fault("cools (not not not not 1 = -1)" + REST, 27);
        says("(not not not not 1) + -1", 0);
    }

    private static void manyTexts() {
        SoupByRank x = new SoupByRank();
        for (int t = 1; t < 6; t++) {
            DUE.is("text " + t, Due.text(x, "cools " + t + "0" + REST), t);
        }
        Due.feed(x, "bad");
        DUE.is("text 6", x.text(), -4);
        DUE.is("the tape stays", x.count(5), 3);
        DUE.is("texts", x.count(3), 6);
        for (int t = 1; t < 6; t++) {
            x.force(t);
            DUE.is("what text " + t + " says", x.asks(0, -1, 0, 0, 0), 10 * t);
        }
        x.force(0);
        DUE.is("what text 0 says", x.asks(0, -1, 0, 0, 0), 2);
    }

    private static void longTexts() {
        StringBuilder s = new StringBuilder("cools 1");
        while (s.length() < 160 - REST.length()) {
            s.append(s.length() % 2 == 1 ? "+" : "1");
        }
        s.setLength(159 - REST.length());
        SoupByRank x = new SoupByRank();
        DUE.is("a long text", Due.text(x, s + REST), 1);
        x.force(1);
        DUE.is("its sum", x.asks(0, -1, 0, 0, 0), 68);
        fault("(".repeat(160), 0);
        fault("cools " + "(".repeat(154), 11);
        fault("cools 1" + "0".repeat(153), 6);
        fault(" ".repeat(160), 160);
    }

    public static void main(String[] args) {
        values();
        blanksAndTokens();
        grammar();
        openOnes();
        manyTexts();
        longTexts();
        DUE.end();
    }
}
