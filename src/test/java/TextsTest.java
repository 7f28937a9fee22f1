/** Promises 7 to 9: laws, their texts and faults, what counts on a day, and numbers. */
public final class TextsTest {
    private static final int NONE = SupplyBook.NONE;
    private static final Due DUE = new Due("TextsTest");

    private static void fault(String text, int want) {
        SupplyBook book = new SupplyBook();
        DUE.is("law " + text, Due.law(book, text), want);
        DUE.is("the tape behind " + text, book.count(12), 0);
        DUE.is("laws behind " + text, book.count(3), want == 0 ? 1 : 0);
    }

    private static void wordsFault(String text, int want) {
        SupplyBook book = new SupplyBook();
        book.head(NONE);
        DUE.is("words " + text, Due.vote(book, 0, 0, 1, 0, text), want);
        DUE.is("authorities behind " + text, book.count(4), want == 0 ? 1 : 0);
        DUE.is("the tape behind " + text, book.count(12), 0);
    }

    private static void standing() {
        String[] good = {"o(a=1)", "n(a<1)", "s(a>1)9", "s(a=1)1", "t(a=1)", "m0", "m100", "c100", "b999999", "e000000",
            "d123456", "x0.0", "x19.15", "o(!a=1)", "o((a=1))", "o(u0)", "o(u39)", "o(u000039)", "o(!u1&!!(u2|u3))",
            "o(a+y-h*k/r%q+l=[a])", "o([[a+1]*2]<999999)", "o(a=1&a=2|a=3)", "o((((((((a=1))))))))", "o([[[[[[[a]]]]]]]=1)",
            "o(!!!!!!!a=1)", "o(!!!!!![a]=1)", "o((!(!(![a]=1))))", "m1;c2;b3;e4;d5;x6.7;o(a=1);n(a=1);s(a=1)2;t(a=1)",
            "m1;m1;m1;m1;m1;m1;m1;m1;m1;m1;m1;m1;m1;m1;m1;m1"};
        for (String text : good) {
            fault(text, 0);
        }
    }

    private static void whatCannotStand() {
        fault("q", -1000);
        fault(" m1", -1000);
        fault(";", -1000);
        fault("m", -1001);
        fault("mm", -1001);
        fault("m1;", -1003);
        fault("m1,m2", -1002);
        fault("m1 ", -1002);
        fault("m1;;m2", -1003);
        fault("O(a=1)", -1000);
        fault("o", -1001);
        fault("o[a=1]", -1001);
        fault("o()", -1002);
        fault("o(a)", -1003);
        fault("o(a=)", -1004);
        fault("o(a=1", -1005);
        fault("o(a=1=2)", -1005);
        fault("o(a=1))", -1006);
        fault("o(a=1&)", -1006);
        fault("o(&a=1)", -1002);
        fault("o(a==1)", -1004);
        fault("o(-1=a)", -1002);
        fault("o(a=b)", -1004);
        fault("o(a=1!)", -1005);
        fault("o(u)", -1003);
        fault("o(ua)", -1003);
        fault("o(u1=1)", -1004);
        fault("o((a)=1)", -1004);
        fault("o((a=1)=1)", -1007);
        fault("o([a=1]=1)", -1004);
        fault("o([a=1)", -1004);
        fault("o([a)=1)", -1004);
        fault("o(a=[1)", -1006);
        fault("o(!)", -1003);
        fault("o(a<>1)", -1004);
        fault("o(a=1)2", -1006);
        fault("s(a=1)", -1006);
        fault("s(a=1)0", -1006);
        fault("s(a=1)a", -1006);
        fault("s(a=1)12", -1007);
        fault("x1", -1002);
        fault("x1.", -1003);
        fault("x1,2", -1002);
        fault("x.1", -1001);
        fault("x1.2.3", -1004);
        fault("o(a= 1)", -1004);
        fault("o(a=1a)", -1005);
    }

    private static void otherFaults() {
        fault("b1234567", -2007);
        fault("m1000000", -2007);
        fault("o(u0000001)", -2009);
        fault("o(a=1234567)", -2010);
        fault("x0000001.0", -2007);
        fault("x1.0000001", -2009);
        fault("m101", -3001);
        fault("m101q", -3001);
        fault("c999999", -3001);
        fault("x20.0", -3001);
        fault("x20", -3001);
        fault("x0.16", -3003);
        fault("o(u40)", -3003);
        fault("o(u40", -3003);
        fault("m1;m1;m1;m1;m1;m1;m1;m1;m1;m1;m1;m1;m1;m1;m1;m1;m1", -4048);
        fault("m1;m1;m1;m1;m1;m1;m1;m1;m1;m1;m1;m1;m1;m1;m1;m1;q", -1048);
        fault("m1;m1;m1;m1;m1;m1;m1;m1;m1;m1;m1;m1;m1;m1;m1;m1;", -1048);
        fault("o(((((((((a=1)))))))))", -5009);
        fault("o([[[[[[[[a]]]]]]]]=1)", -5009);
        fault("o(!!!!!!!!a=1)", -5009);
        fault("o(!!!!!!![a]=1)", -5009);
        fault("o((((((((a=1))))))));o(((((((((a=1)))))))))", -5030);
        fault("o((((((((a=[1]))))))))", -5011);
        fault("o(!!!!!!!a=1&!!!!!!!a=1|!!!!!!!!a=1)", -5031);
        fault("o((((((((a=1)))))))(", -1019);
        wordsFault("m1", -6000);
        wordsFault("c1", -6000);
        wordsFault("b1", -6000);
        wordsFault("e1", -6000);
        wordsFault("d1", -6000);
        wordsFault("x0.0", -6000);
        wordsFault("o(a=1);x", -6007);
        wordsFault("o(a=1);q", -1007);
        wordsFault("o(a=1);n(a=1);s(a=1)3;t(a=1)", 0);
        StringBuilder sixteen = new StringBuilder("t(a=1)");
        for (int i = 1; i < 16; i++) {
            sixteen.append(";t(a=1)");
        }
        wordsFault(sixteen.toString(), 0);
        wordsFault(sixteen + ";o", -4112);
        wordsFault(sixteen + ";m", -6112);
        wordsFault(sixteen + ";q", -1112);
    }

    private static void refusedLaws() {
        SupplyBook book = new SupplyBook();
        Due.feed(book, "m1;m2");
        int[][] wrong = {{-1, 3599, 2}, {0, 3600, 2}, {3, 2, 2}, {3600, 3600, 2}, {0, -1, 2}, {0, 3599, 0}, {0, 3599, -1},
            {0, 3599, 21}, {0, 3599, 201}, {0, 3599, Integer.MAX_VALUE}, {0, 3599, Integer.MIN_VALUE}};
        for (int[] w : wrong) {
            DUE.is("law(" + w[0] + ", " + w[1] + ", " + w[2] + ")", book.law(w[0], w[1], w[2]), NONE);
        }
        DUE.is("the tape stays", book.count(12), 20);
        DUE.is("law by the first bytes", book.law(7, 7, 2), 0);
        DUE.is("empty then", book.count(12), 0);
        for (int i = 1; i < 20; i++) {
            DUE.is("law " + i, Due.law(book, "m1"), i);
        }
        Due.feed(book, "q");
        DUE.is("a 21st law", book.law(0, 3599, 1), NONE);
        DUE.is("the tape stays", book.count(12), 20);
        DUE.is("laws", book.count(3), 20);
    }

    private static void longTexts() {
        StringBuilder text = new StringBuilder("o(a=1");
        while (text.length() < 199) {
            text.append("+a");
        }
        text.append(")");
        DUE.is("length", text.length(), 200);
        fault(text.toString(), 0);
        SupplyBook book = new SupplyBook();
        Due.feed(book, text + "x");
        DUE.is("201 bytes", book.law(0, 3599, 201), NONE);
        DUE.is("200 of them", book.law(0, 3599, 200), 0);
        book.head(NONE);
        Due.feed(book, text + "x");
        DUE.is("201 bytes as words", book.vote(0, 0, 1, 0, 201), NONE);
        DUE.is("200 of them", book.vote(0, 0, 1, 0, 200), 0);
    }

    private static void counts() {
        SupplyBook book = new SupplyBook();
        DUE.is("no law", book.counts(0, 0), NONE);
        Due.law(book, 10, 20, "m1;m2;m3");
        DUE.is("day 9", book.counts(0, 9), 0);
        DUE.is("day 10", book.counts(0, 10), 3);
        DUE.is("day 20", book.counts(0, 20), 3);
        DUE.is("day 21", book.counts(0, 21), 0);
        DUE.is("law -1", book.counts(-1, 10), NONE);
        DUE.is("law 1", book.counts(1, 10), NONE);
        DUE.is("day -1", book.counts(0, -1), NONE);
        DUE.is("day 3600", book.counts(0, 3600), NONE);
        Due.law(book, 15, 30, "x0.1;x0.7;x1.0;x2.0");
        DUE.is("struck on day 15", book.counts(0, 15), 2);
        DUE.is("not on day 14", book.counts(0, 14), 3);
        DUE.is("no law strikes itself or one above it", book.counts(1, 15), 4);
        Due.law(book, 16, 16, "x1.0");
        DUE.is("who strikes is struck: the struck one counts", book.counts(0, 16), 3);
        DUE.is("law 1 on day 16", book.counts(1, 16), 3);
        DUE.is("law 1 on day 17", book.counts(1, 17), 4);
        DUE.is("law 0 on day 17", book.counts(0, 17), 2);
    }

    private static void numbers() {
        SupplyBook book = new SupplyBook();
        int[] usual = {10, 0, 0, 0, 30};
        for (int i = 0; i < 5; i++) {
            DUE.is("usual number " + i, book.number(i, 0), usual[i]);
        }
        DUE.is("letter -1", book.number(-1, 0), NONE);
        DUE.is("letter 5", book.number(5, 0), NONE);
        DUE.is("day -1", book.number(0, -1), NONE);
        DUE.is("day 3600", book.number(0, 3600), NONE);
        Due.law(book, "m1;c2;b3;e4;d5");
        for (int i = 0; i < 5; i++) {
            DUE.is("told number " + i, book.number(i, 3599), i + 1);
        }
        Due.law(book, 100, 200, "m7;m8");
        DUE.is("the last of a law", book.number(0, 100), 8);
        DUE.is("the one below", book.number(0, 99), 1);
        DUE.is("another letter", book.number(1, 100), 2);
        Due.law(book, 150, 160, "x1.1");
        DUE.is("when that is struck", book.number(0, 150), 7);
        Due.law(book, 155, 155, "x1.0;x0.0");
        DUE.is("when all are struck", book.number(0, 155), 10);
        DUE.is("the day behind", book.number(0, 156), 7);
    }

    public static void main(String[] args) {
        standing();
        whatCannotStand();
        otherFaults();
        refusedLaws();
        longTexts();
        counts();
        numbers();
        DUE.end();
    }
}
