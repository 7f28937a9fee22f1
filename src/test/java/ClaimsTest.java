/** Promises 18 to 21: claims, signs, bars and paying. */
public final class ClaimsTest {
    private static final int NONE = SupplyBook.NONE;
    private static final int MOST = Due.MOST;
    private static final Due DUE = new Due("ClaimsTest");

    private static void claims() {
        SupplyBook book = new SupplyBook();
        book.head(NONE);
        book.head(0);
        book.hand(1, 4);
        int[][] wrong = {{1, 1, 0, 1, NONE}, {-1, 1, 0, 1, NONE}, {0, 0, 0, 1, NONE}, {0, 2, 0, 1, NONE},
            {0, -1, 0, 1, NONE}, {0, 1, -1, 1, NONE}, {0, 1, 10, 1, NONE}, {0, 1, 0, 0, NONE}, {0, 1, 0, -1, NONE},
            {0, 1, 0, MOST + 1, NONE}, {0, 1, 0, 1, 0}, {0, 1, 0, 1, -2}};
        for (int[] w : wrong) {
            DUE.is("claim(" + w[0] + ", " + w[1] + ", " + w[2] + ", " + w[3] + ", " + w[4] + ")",
                    book.claim(w[0], w[1], w[2], w[3], w[4], true), NONE);
        }
        for (int c = 0; c < 300; c++) {
            DUE.is("claim " + c, book.claim(0, 1, c % 10, MOST - c, NONE, c % 2 == 0), c);
        }
        DUE.is("a 301st", book.claim(0, 1, 0, 1, NONE, false), NONE);
        DUE.is("claims", book.count(6), 300);
        DUE.is("its sum", book.look(299, 3), MOST - 299);
    }

    private static void signs() {
        SupplyBook book = Due.filled();
        book.head(0);
        book.head(NONE);
        book.hand(1, 9);
        book.hand(2, 9);
        book.vote(0, 0, 100, 0, 0);
        int c = Due.claim(book, 10);
        DUE.no("no claim", book.sign(1, 1));
        DUE.no("claim -1", book.sign(-1, 1));
        DUE.no("no hand", book.sign(c, 4));
        DUE.no("hand -1", book.sign(c, -1));
        DUE.no("its own", book.sign(c, 0));
        DUE.no("a hand of a head below", book.sign(c, 2));
        DUE.no("a hand of a head elsewhere", book.sign(c, 3));
        DUE.yes("sign", book.sign(c, 1));
        DUE.no("sign again", book.sign(c, 1));
        DUE.is("who signed", book.look(c, 6), 2);
        int d = book.claim(2, 1, 0, 10, NONE, false);
        DUE.yes("a hand of the head above", book.sign(d, 0));
        DUE.is("pay", book.pay(d), 0);
        DUE.no("paid", book.sign(d, 1));
    }

    /** What the answer to may() is with a law, for a claim of 10 of kind 4 and a vote of 100, on day 365. */
    private static void law(String text, int want) {
        SupplyBook book = barsBook();
        Due.law(book, text);
        book.vote(0, 0, 100, 1, 0);
        int c = book.claim(0, 1, 4, 10, NONE, false);
        DUE.is("may by " + text, book.may(c), want);
    }

    private static SupplyBook barsBook() {
        SupplyBook book = Due.filled();
        book.head(0);
        book.head(NONE);
        book.now(365);
        return book;
    }

    private static void facts() {
        law("o(a=10)", 0);
        law("o(y=5)", 0);
        law("o(h=1)", 0);
        law("o(k=4)", 0);
        law("o(r=0)", 0);
        law("o(q=0)", 0);
        law("o(l=100)", 0);
        law("o(u0)", 0);
        law("o(u1)", 0);
        law("o(u2)", -15);
        law("o(u39)", -15);
        law("n(u39)", 0);
        law("o(2+3*4=14)", 0);
        law("o([2+3]*4=20)", 0);
        law("o(20-5-3=12)", 0);
        law("o(100/7/2=7)", 0);
        law("o(100%7*2=4)", 0);
        law("o(0-7=0-[14/2])", 0);
        law("o([0-7]/2=0-3)", 0);
        law("o([0-7]%2=0-1)", 0);
        law("o(999999*999999*999999*999999<0)", 999999L * 999999 * 999999 * 999999 < 0 ? 0 : -15);
        law("o(1<2)", 0);
        law("o(2<2)", -15);
        law("o(2>1)", 0);
        law("o(2>2)", -15);
    }

    private static void conditions() {
        law("o(1=2|1=1)", 0);
        law("o(1=1&1=2)", -15);
        law("o(1=2&1=1|1=1)", 0);
        law("o(1=1|1=1&1=2)", 0);
        law("o((1=1|1=1)&1=2)", -15);
        law("o(!1=2)", 0);
        law("o(!!1=2)", -15);
        law("o(!(1=1&1=2))", 0);
        law("n(!(1=2|1=1))", 0);
        law("o(!1=2&1=2)", -15);
    }

    private static void refused() {
        law("o(1/0=1)", -18);
        law("o(1%0=1)", -18);
        law("n(1/0=1)", -18);
        law("t(1=2&1/0=1)", 0);
        law("o(1=1|1/0=1)", 0);
        law("o(1/0=1|1=1)", -18);
        law("o(1=2&1/0=1)", -15);
        law("o(!(1=1&1/[a-10]=1))", -18);
        law("o(1=1|1=1&[1/0]=1)", 0);
        law("o((1=2&1/0=1)|1=1)", 0);
        // what stands in a part or piece that is not asked is not asked, either
        law("o(1=1|(1=2|1/0=1))", 0);
        law("o(1=1|(1=1&1/0=1))", 0);
        law("o(1=1|!(1=2|!1/0=1))", 0);
        law("t(1=2&(1=2|1/0=1))", 0);
        law("t(1=2&(1=1&1/0=1))", 0);
        law("t(1=2&!(1=2|(1=1&[1/0]=1)))", 0);
        law("o(1=2&1/0=1|1=1)", 0);
        law("o(1=2|1=1&1/0=1)", -18);
        law("o(1=2|(1=2|1/0=1))", -18);
        law("o(1=1&(1=1&1/0=1))", -18);
        law("o(1=1&!(1=2|1/0=1))", -18);
        // of an E both sides are asked, and all of each
        law("o(1=1/0)", -18);
        law("o(1/0<1)", -18);
        law("o(1=1+0*[1%0])", -18);
        law("o(0/1=0)", 0);
        law("o(0*[1/0]=0)", -18);
        law("o(1/0*0=0)", -18);
    }

    private static void bars() {
        law("o(a>10)", -15);
        law("n(a=10)", -15);
        law("n(a>10)", 0);
        law("s(a=10)1", -16);
        law("s(a>10)1", 0);
        law("t(a=10)", -17);
        law("t(a>10)", 0);
        law("t(a=10);s(a=10)9;o(1=2)", -17);
        law("s(a=10)9;t(a=10);o(1=2)", -16);
        law("m5;c5;b5;e5;d5;x0.0", 0);
        law("m5;o(1=2)", -15);
        SupplyBook book = barsBook();
        book.vote(0, 0, 100, 1, 0);
        Due.law(book, "t(a=10)");
        Due.law(book, "s(a=10)4");
        int c = book.claim(0, 1, 4, 10, NONE, false);
        int d = book.claim(0, 1, 4, 10, NONE, true);
        DUE.is("by laws in their order", book.may(c), -17);
        DUE.is("a tender is there", book.may(d), -16);
        book.hand(0, 4);
        book.sign(d, 2);
        DUE.is("a sign of rank 4", book.may(d), 0);
        book = barsBook();
        Due.vote(book, 0, 0, 100, 1, "s(a=10)9");
        Due.law(book, "t(a=10)");
        c = book.claim(0, 1, 4, 10, NONE, false);
        DUE.is("words ahead of laws", book.may(c), -16);
        Due.law(book, "x0.0");
        Due.law(book, 0, 364, "n(1=1)");
        Due.law(book, 366, 3599, "n(1=1)");
        book.sign(c, 1);
        DUE.is("rank 5 is too low for 9", book.may(c), -16);
        int plain = book.vote(0, 0, 100, 1, 0);
        DUE.is("struck laws and those of other days bar nothing", book.may(c), plain);
    }

    private static void signsNeeded() {
        SupplyBook book = barsBook();
        book.vote(0, 0, 100, 1, 0);
        Due.law(book, "s(a=10)5");
        book.hand(0, 4);
        int c = book.claim(1, 0, 4, 10, NONE, false);
        DUE.is("the own rank is no sign", book.may(c), -16);
        book.sign(c, 0);
        book.sign(c, 2);
        DUE.is("rank 4", book.may(c), -16);
        book.hand(0, 5);
        book.sign(c, 3);
        DUE.is("rank 5", book.may(c), 0);
        Due.law(book, "x0.0;s(a=10)3");
        c = book.claim(1, 0, 4, 10, NONE, false);
        DUE.is("no sign", book.may(c), -16);
        book.sign(c, 0);
        DUE.is("rank 3 of the first hand", book.may(c), 0);
    }

    private static void greatestBar() {
        SupplyBook book = barsBook();
        int c = book.claim(0, 1, 4, 10, NONE, false);
        DUE.is("no authorities", book.may(c), -11);
        DUE.is("no claim", book.may(1), NONE);
        DUE.is("claim -1", book.may(-1), NONE);
        book.vote(0, 2, 100, 1, 0);
        DUE.is("another head", book.may(c), -11);
        book.vote(0, 0, 100, 0, 0);
        DUE.is("another year", book.may(c), -11);
        book.vote(0, 0, 100, 1, 0);
        book.strike(2);
        DUE.is("struck", book.may(c), -12);
        book.vote(3, 0, 9, 0, 0);
        DUE.is("less is left", book.may(c), -13);
        book.vote(2, 0, 10, 1, 0);
        book.ceiling(4, 0, 9);
        DUE.is("ceiling", book.may(c), -14);
        Due.vote(book, 0, 0, 10, 1, "n(k=4)");
        DUE.is("words", book.may(c), -15);
        book.vote(0, 0, 9, 1, 0);
        DUE.is("the greatest of all", book.may(c), -15);
        DUE.is("pay answers alike", book.pay(c), -15);
        DUE.is("and pays nothing", book.count(7), 0);
    }

    private static void order() {
        SupplyBook book = Due.filled();
        Due.law(book, "e1");
        int advance = book.advance(0, 1000);
        int standing = book.vote(3, 0, 1000, 0, 0);
        int carry = book.vote(2, 0, 1000, 0, 0);
        int late = book.vote(0, 0, 10, 0, 0);
        int later = book.vote(0, 0, 1000, 0, 0);
        int c = Due.claim(book, 10);
        int[] row = {late, later, carry, standing, advance};
        for (int v : row) {
            DUE.is("who lets it", book.may(c), v);
            book.strike(v);
        }
        DUE.is("none", book.may(c), -12);
    }

    private static void contractClaims() {
        SupplyBook book = barsBook();
        int v = book.vote(3, 1, 100, 0, 0);
        book.vote(0, 0, 1000, 1, 0);
        book.commit(v, 10, 1, 1);
        int c = book.claim(0, 1, 4, 10, 0, false);
        int d = book.claim(0, 0, 4, 1, 0, false);
        DUE.is("only the contract's", book.may(c), v);
        DUE.is("its head", book.may(d), -11);
        book.ceiling(v, 1, 9);
        DUE.is("a ceiling of it", book.may(c), -14);
        book.strike(2);
        book.now(720);
        DUE.is("nothing is bound in another year", book.may(c), -13);
        book = barsBook();
        v = book.vote(0, 0, 100, 1, 0);
        book.commit(v, 30, 1, 1);
        Due.law(book, "o(l=70)");
        c = book.claim(0, 1, 4, 30, 0, false);
        DUE.is("left of it is what is not bound", book.may(c), v);
        book.strike(v);
        DUE.is("struck", book.may(c), -12);
    }

    private static void pays() {
        SupplyBook book = Due.filled();
        int v = book.vote(3, 0, MOST, 0, 0);
        int c = Due.claim(book, MOST);
        int d = Due.claim(book, 1);
        DUE.is("no claim", book.pay(2), NONE);
        DUE.is("claim -1", book.pay(-1), NONE);
        book.now(400);
        DUE.is("all that the chest has", book.pay(c), v);
        DUE.is("again", book.pay(c), NONE);
        DUE.is("may of a paid one", book.may(c), NONE);
        DUE.is("bars ahead of the chest", book.pay(d), -13);
        book.now(800);
        DUE.is("the chest is empty", book.pay(d), -9);
        DUE.is("though it may be paid", book.may(d), v);
        DUE.is("not paid", book.look(d, 7), NONE);
        DUE.is("paid on", book.look(c, 7), 400);
        DUE.is("paid by", book.look(c, 8), v);
        DUE.is("those paid", book.count(7), 1);
        book.comes(0, 1);
        DUE.is("now it has so much", book.pay(d), v);
        DUE.is("the chest", book.sum(0), 0);
        DUE.is("all that was paid", book.sum(2), MOST + 1L);
    }

    private static void claimsOfHand() {
        SupplyBook book = Due.filled();
        book.vote(3, 0, 100, 0, 0);
        Due.law(book, "n(q>1)");
        int[] c = {Due.claim(book, 1), Due.claim(book, 1), Due.claim(book, 1)};
        int other = book.claim(1, 0, 0, 1, NONE, false);
        book.pay(c[0]);
        book.pay(c[1]);
        DUE.is("two were paid this year", book.pay(c[2]), -15);
        DUE.is("another hand", book.pay(other), 0);
        book.now(360);
        DUE.is("next year", book.pay(c[2]), 0);
    }

    public static void main(String[] args) {
        claims();
        signs();
        facts();
        conditions();
        refused();
        bars();
        signsNeeded();
        greatestBar();
        order();
        contractClaims();
        pays();
        claimsOfHand();
        DUE.end();
    }
}
