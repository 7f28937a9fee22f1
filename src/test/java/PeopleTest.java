/** Promises 1 to 6: a new object, time, heads, hands and the tape. */
public final class PeopleTest {
    private static final int NONE = SupplyBook.NONE;
    private static final Due DUE = new Due("PeopleTest");

    private static void newObject() {
        SupplyBook book = new SupplyBook();
        for (int what = 0; what <= 13; what++) {
            DUE.is("count(" + what + ") of a new one", book.count(what), 0);
        }
        for (int what = 0; what <= 5; what++) {
            DUE.is("sum(" + what + ") of a new one", book.sum(what), 0);
        }
        DUE.is("NONE", SupplyBook.NONE, -1);
        SupplyBook other = new SupplyBook();
        other.head(NONE);
        DUE.is("one book knows nothing of another", book.count(1), 0);
    }

    private static void now() {
        SupplyBook book = new SupplyBook();
        DUE.yes("now(0)", book.now(0));
        DUE.no("now(-1)", book.now(-1));
        DUE.yes("now(5)", book.now(5));
        DUE.yes("now(5) again", book.now(5));
        DUE.no("now(4), past", book.now(4));
        DUE.no("now(3600)", book.now(3600));
        DUE.no("now(greatest int)", book.now(Integer.MAX_VALUE));
        DUE.no("now(least int)", book.now(Integer.MIN_VALUE));
        DUE.is("refused days change nothing", book.count(0), 5);
        DUE.yes("now(3599)", book.now(3599));
        DUE.is("count(0)", book.count(0), 3599);
    }

    private static void heads() {
        SupplyBook book = new SupplyBook();
        DUE.is("head(0) without one", book.head(0), NONE);
        DUE.is("head(-2)", book.head(-2), NONE);
        DUE.is("first head", book.head(NONE), 0);
        DUE.is("head(1) not yet there", book.head(1), NONE);
        for (int h = 1; h < 40; h++) {
            DUE.is("head " + h, book.head(h - 1), h);
        }
        DUE.is("a 41st head", book.head(0), NONE);
        DUE.is("a 41st head of none", book.head(NONE), NONE);
        DUE.is("heads", book.count(1), 40);
        DUE.is("the deepest under the first", book.under(39, 0), 1);
        DUE.is("the first under the deepest", book.under(0, 39), 0);
    }

    private static void under() {
        SupplyBook book = new SupplyBook();
        book.head(NONE);
        book.head(0);
        book.head(0);
        book.head(1);
        book.head(NONE);
        int[][] dueRows = {{1, 0, 0, 0, 0}, {1, 1, 0, 0, 0}, {1, 0, 1, 0, 0}, {1, 1, 0, 1, 0}, {0, 0, 0, 0, 1}};
        for (int a = 0; a < 5; a++) {
            for (int b = 0; b < 5; b++) {
                DUE.is("under(" + a + ", " + b + ")", book.under(a, b), dueRows[a][b]);
            }
        }
        int[][] wrong = {{5, 0}, {0, 5}, {-1, 0}, {0, -1}, {Integer.MAX_VALUE, 0}, {0, Integer.MIN_VALUE}};
        for (int[] w : wrong) {
            DUE.is("under(" + w[0] + ", " + w[1] + ")", book.under(w[0], w[1]), NONE);
        }
    }

    private static void hands() {
        SupplyBook book = new SupplyBook();
        DUE.is("a hand without a head", book.hand(0, 1), NONE);
        book.head(NONE);
        DUE.is("hand(-1, 1)", book.hand(-1, 1), NONE);
        DUE.is("hand(1, 1)", book.hand(1, 1), NONE);
        DUE.is("rank 0", book.hand(0, 0), NONE);
        DUE.is("rank 10", book.hand(0, 10), NONE);
        DUE.is("rank 1", book.hand(0, 1), 0);
        DUE.is("rank 9", book.hand(0, 9), 1);
        for (int h = 2; h < 16; h++) {
            DUE.is("hand " + h, book.hand(0, 5), h);
        }
        DUE.is("a 17th hand", book.hand(0, 5), NONE);
        DUE.is("hands", book.count(2), 16);
    }

    private static void feed() {
        SupplyBook book = new SupplyBook();
        for (int i = 1; i <= 20; i++) {
            DUE.is("feed " + i, book.feed(1, 2, 3, 4, 5), 20 * i);
        }
        DUE.is("a 21st feed", book.feed(1, 2, 3, 4, 5), NONE);
        DUE.is("the tape stays", book.count(12), 400);
        book = new SupplyBook();
        // m7;m8 by its bytes, the highest of each int first
        book.feed('m' << 24 | '7' << 16 | ';' << 8 | 'm', '8' << 24, 0, 0, 0);
        DUE.is("law of five bytes", book.law(0, 3599, 5), 0);
        DUE.is("bytes in their order", book.number(0, 0), 8);
        DUE.is("empty then", book.count(12), 0);
        book.feed(-1, -1, -1, -1, -1);
        DUE.is("bytes above 127 can't stand", book.law(0, 3599, 20), -1000);
    }

    public static void main(String[] args) {
        newObject();
        now();
        heads();
        under();
        hands();
        feed();
        DUE.end();
    }
}
