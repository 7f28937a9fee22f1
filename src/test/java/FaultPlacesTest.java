/**
 * The faults of texts and their places: every byte at every place of texts that stand, put in, put instead and cut
 * off, set against the table of states in RandomRunsTest; and by hand what the document says of each fault.
 */
public final class FaultPlacesTest {
    private static final int NONE = SupplyBook.NONE;
    private static final String[] LAWS = {"m100;c0;b999999;e1;d30;x19.15", "o(a=1)", "s(u39&!k<9|a>1)9",
        "n(!(u1|u22)&[a+1]*2%r>l)", "t((((((((a=q))))))))", "o([[[[[[[y]]]]]]]<h)", "o(!!!!!!!a=1&u0)",
        "n(!([!a=1]=1))", "n(![a-[l/2]]=1|(!!u3&a=[1]))", "m000009;x00.015;n(u000038)", "o(a=123456);d123456"};
    private static final String[] WORDS = {"o(a=1);n(u1);s(k=9)1;t(!q>2)", "s(a=1)9", "t([a]=[[l]]&(y<9|h=000000))"};
    private static final String SIXTEEN = "t(q=1);t(q=1);t(q=1);t(q=1);t(q=1);t(q=1);t(q=1);t(q=1);"
            + "t(q=1);t(q=1);t(q=1);t(q=1);t(q=1);t(q=1);t(q=1);t(q=1)";
    private static final Due DUE = new Due("FaultPlacesTest");
    private static SupplyBook book = new SupplyBook();

    private static int law(String text) {
        if (book.count(3) == 20) {
            book = new SupplyBook();
        }
        int got = Due.law(book, text);
        return got >= 0 ? 0 : got;
    }

    private static int words(String text) {
        if (book.count(4) == 80 || book.count(1) == 0) {
            book = new SupplyBook();
            book.head(NONE);
        }
        int got = Due.vote(book, 0, 0, 1, 0, text);
        return got >= 0 ? 0 : got;
    }

    private static void both(String text) {
        if (!text.isEmpty() && text.length() <= 200) {
            DUE.is("law " + text, law(text), RandomRunsTest.Model.faultOf(text, true));
            DUE.is("words " + text, words(text), RandomRunsTest.Model.faultOf(text, false));
        }
    }

    /** Every text that is one byte away from one that stands. */
    private static void oneByteAway(String text) {
        both(text);
        for (int at = 0; at <= text.length(); at++) {
            String ahead = text.substring(0, at);
            both(ahead);
            for (int b = 0; b < 256; b++) {
                both(ahead + (char) b + text.substring(at));
                if (at < text.length()) {
                    both(ahead + (char) b + text.substring(at + 1));
                }
            }
            if (at < text.length()) {
                both(ahead + text.substring(at + 1));
            }
        }
    }

    // ---- by hand

    private static void fault(String text, int want) {
        DUE.is("law " + text, law(text), want);
    }

    private static void wordsFault(String text, int want) {
        DUE.is("words " + text, words(text), want);
    }

    /** 1 what can't stand there (the end, too): the end behind each part of a text. */
    private static void theEnd() {
        String text = "x1.2;s(!(u3&[a+1]*2<4|a=1))5";
        fault(text, 0);
        for (int n = 1; n < text.length(); n++) {
            fault(text.substring(0, n), n == 4 ? 0 : -1000 - n);
        }
        fault("x1.2;s(!(u3&[a+1]*2<4|b", -1022);
    }

    /** 2 a seventh digit, at it. */
    private static void seventhDigits() {
        String[] ahead = {"m", "c", "b", "e", "d", "x", "x1.", "o(u", "o(", "o(a=", "o([", "o(a=[a*", "o(!u",
            "m1;o((a=1|"};
        for (String s : ahead) {
            fault(s + "0000000", -2000 - s.length() - 6);
            fault(s + "9999999", -2000 - s.length() - 6);
            fault(s + "1234567890", -2000 - s.length() - 6);
            // six digits are a number: what fails is the end, or the number itself
            boolean isGreat = s.charAt(s.length() - 1) == 'u' || s.equals("m") || s.equals("c") || s.startsWith("x");
            fault(s + "999999", isGreat ? -3000 - s.length() : s.length() == 1 ? 0 : -1000 - s.length() - 6);
        }
        wordsFault("t(a=1234567)", -2010);
        wordsFault("t(u1234567)", -2009);
    }

    /** 3 a number that it can't be, at its first digit (asked when its digits end). */
    private static void greatNumbers() {
        String[] ahead = {"m", "c", "x", "x0.", "o(u"};
        int[] most = {100, 100, 19, 15, 39};
        String[] behind = {"", "", ".0", "", ")"};
        for (int i = 0; i < ahead.length; i++) {
            String s = ahead[i];
            fault(s + most[i] + behind[i], 0);
            fault(s + (most[i] + 1) + behind[i], -3000 - s.length());
            fault(s + (most[i] + 1) + "q", -3000 - s.length());
            fault(s + (most[i] + 1), -3000 - s.length());
            fault(s + "0" + most[i] + behind[i], 0);
            fault(s + "0" + (most[i] + 1) + behind[i], -3000 - s.length());
            fault(s + "0" + behind[i], 0);
            fault(s + "000000" + behind[i], 0);
        }
        String[] great = {"b", "e", "d"};
        for (String s : great) {
            fault(s + "0", 0);
            fault(s + "999999", 0);
            fault(s + "1000000", -2007);
        }
        fault("o(999999=a)", 0);
        fault("m1;m2;c101;m101", -3007);
        wordsFault("o(u39)", 0);
        wordsFault("o(u40)", -3003);
    }

    /** R is a digit 1 to 9, and one alone. */
    private static void ranks() {
        for (char r = 0; r < 256; r++) {
            fault("s(a=1)" + r, r >= '1' && r <= '9' ? 0 : -1006);
            wordsFault("s(a=1)" + r, r >= '1' && r <= '9' ? 0 : -1006);
        }
        fault("s(a=1)1;m1", 0);
        fault("s(a=1)11", -1007);
        fault("s(a=1)", -1006);
        fault("o(a=1)1", -1006);
        fault("n(a=1)9", -1006);
        fault("t(a=1)5", -1006);
    }

    /** 4 a 17th clause, at its letter (if that can stand there). */
    private static void seventeenClauses() {
        int at = SIXTEEN.length() + 1;
        fault(SIXTEEN, 0);
        wordsFault(SIXTEEN, 0);
        fault(SIXTEEN + ";", -1000 - at);
        wordsFault(SIXTEEN + ";", -1000 - at);
        for (char c = 0; c < 256; c++) {
            boolean isRule = "onst".indexOf(c) >= 0;
            boolean isMoney = "mcbedx".indexOf(c) >= 0;
            fault(SIXTEEN + ";" + c, isRule || isMoney ? -4000 - at : -1000 - at);
            fault(SIXTEEN + ";" + c + "(a=1)", isRule || isMoney ? -4000 - at : -1000 - at);
            wordsFault(SIXTEEN + ";" + c, isRule ? -4000 - at : isMoney ? -6000 - at : -1000 - at);
            fault("m1;m2;m3;m4;m5;m6;m7;m8;m9;m0;m1;m2;m3;m4;m5;" + c + "q",
                    isMoney || isRule ? -1046 : -1045);
        }
        // an earlier fault comes first
        fault("m101;" + SIXTEEN + ";m1", -3001);
        fault(SIXTEEN + "1;m1", -1000 - at + 1);
    }

    /** 5 a ninth of ( [ ! that are open in one another in one clause, at it. */
    private static void ninthOpen() {
        String[] eight = {"(((((((", "!!!!!!!", "!(!(!(!", "((((!!!", "!!!((((", "(((([[["};
        for (String s : eight) {
            String ahead = "n(" + s;
            boolean isSquare = s.endsWith("[");
            fault(ahead + "[", -5009);
            fault(ahead + "(", isSquare ? -1009 : -5009);
            fault(ahead + "!", isSquare ? -1009 : -5009);
            fault(ahead + "a", -1010);
            wordsFault(ahead + "[", -5009);
            fault("m1;" + ahead + "[", -5012);
            fault(ahead.substring(0, 8) + "[", -1009);
            fault(ahead.substring(0, 8) + "[a", -1010);
            fault(ahead.substring(0, 8) + "[[", -5009);
        }
        // a ! is open till its piece ends
        fault("n(!!!!!!!a=1&!!!!!!!a=1)", 0);
        fault("n(!!!!!!!a=1&!!!!!!!!a=1)", -5020);
        fault("n(!!!!!!!a=[1])", -5011);
        fault("n(!!!!!!a=[1])", 0);
        fault("n(!!!!!!a=[[1]])", -5011);
        fault("n(!!!!!!(a=1)|!!!!!!!u1)", 0);
        fault("n(!!!!!!(a=1)|!!!!!!(!u1))", -5021);
        fault("n(!!!!!!!u1|[[[[[[[a]]]]]]]=1)", 0);
        fault("n(!!!!!!!u1|[[[[[[[[a]]]]]]]]=1)", -5019);
        fault("n(!(!(!(!u1)))&!(!(!(!u1))))", 0);
        fault("n((!(!(!u1)))&!(!(!(!(u1)))))", -5021);
        // what is closed is open no more, and another clause starts anew
        fault("n(([a]=[a])&([a]=[a])&([a]=[a])&([a]=[a])&([a]=[a]))", 0);
        fault("n([[[[[[[a]]]]]]]=[[[[[[[a]]]]]]])", 0);
        fault("n([[[[[[[a]]]]]]]=[[[[[[[[a]]]]]]])", -5025);
        fault("n(((((((a=1)))))));n(((((((a=1)))))))", 0);
        // what can't stand there is fault 1, however deep
        fault("n((((((((a(", -1010);
        fault("n((((((((a!", -1010);
        fault("n((((((((a[", -1010);
        fault("n((((((((a=(", -1011);
        fault("n((((((((a=[", -5011);
    }

    /** 6 a letter m c b e d x in words, at it. */
    private static void lettersOfLaws() {
        String money = "mcbedx";
        StringBuilder ahead = new StringBuilder();
        for (int clause = 0; clause < 16; clause++) {
            for (int i = 0; i < money.length(); i++) {
                wordsFault(ahead.toString() + money.charAt(i), -6000 - ahead.length());
                wordsFault(ahead.toString() + money.charAt(i) + "1", -6000 - ahead.length());
            }
            ahead.append("n(k=1);");
        }
        // inside a condition they are but signs that can't stand there
        wordsFault("n(m=1)", -1002);
        fault("n(m=1)", -1002);
        wordsFault("n(a=d)", -1004);
        fault("n(a=d)", -1004);
    }

    /** The greatest places: of 200 bytes the last, and the end behind it. */
    private static void greatPlaces() {
        StringBuilder s = new StringBuilder("n(a=1");
        while (s.length() < 199) {
            s.append("+1");
        }
        fault(s + ")", 0);
        fault(s + "q", -1199);
        fault(s + "+", -1200);
        wordsFault(s + ")", 0);
        wordsFault(s + "q", -1199);
        wordsFault(s + "+", -1200);
        s.setLength(191);
        fault(s + ");x20.0;", -3194);
        fault(s + ");m1;x20", -3197);
        fault(s + ");m1;m101", -3197);
        fault(s + ");m1;m1;(", -1199);
        s.setLength(189);
        wordsFault(s + ");t(a=1);m1", -6198);
        s.setLength(187);
        fault(s + "+100+123456", -1198);
        fault(s + "+10+1234567", -2197);
        fault(s + "+1000+1234567", -2199);
    }

    public static void main(String[] args) {
        for (String text : LAWS) {
            oneByteAway(text);
        }
        for (String text : WORDS) {
            oneByteAway(text);
        }
        theEnd();
        seventhDigits();
        greatNumbers();
        ranks();
        seventeenClauses();
        ninthOpen();
        lettersOfLaws();
        greatPlaces();
        DUE.end();
    }
}
