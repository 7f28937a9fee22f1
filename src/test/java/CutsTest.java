/** Promises 22 to 24: items that are asked, cuts of a total, and how much more it must be. */
public final class CutsTest {
    private static final int NONE = SupplyBook.NONE;
    private static final int MOST = Due.MOST;
    private static final Due DUE = new Due("CutsTest");

    private static SupplyBook book() {
        SupplyBook book = new SupplyBook();
        book.head(NONE);
        return book;
    }

    private static void asks() {
        SupplyBook book = book();
        DUE.is("no head", book.ask(1, 1, 1, false), NONE);
        DUE.is("head -1", book.ask(-1, 1, 1, false), NONE);
        DUE.is("sum -1", book.ask(0, -1, 1, false), NONE);
        DUE.is("sum too great", book.ask(0, MOST + 1, 1, false), NONE);
        DUE.is("worth -1", book.ask(0, 1, -1, false), NONE);
        DUE.is("worth too great", book.ask(0, 1, 1000001, false), NONE);
        DUE.is("greatest of both", book.ask(0, MOST, 1000000, true), 0);
        for (int i = 1; i < 14; i++) {
            DUE.is("item " + i, book.ask(0, 0, 0, false), i);
        }
        DUE.is("a 15th", book.ask(0, 0, 0, false), NONE);
        DUE.is("items", book.count(8), 14);
        DUE.is("the floor fits", book.cut(MOST), 1);
        DUE.is("the floor does not", book.cut(MOST - 1), NONE);
    }

    private static void cuts() {
        SupplyBook book = book();
        DUE.is("of nothing", book.cut(0), 0);
        DUE.is("total -1", book.cut(-1), NONE);
        DUE.is("total too great", book.cut(MOST + 1), NONE);
        book.ask(0, 30, 3, false);
        book.ask(0, 20, 3, false);
        book.ask(0, 20, 3, false);
        book.ask(0, 0, 0, false);
        DUE.is("19", book.cut(19), 0);
        DUE.is("the least sum of like worth, the least bits", book.cut(35), 2);
        DUE.is("40", book.cut(40), 6);
        DUE.is("50", book.cut(50), 6);
        DUE.is("70: not what is worth nothing", book.cut(70), 7);
        book.ask(0, 70, 9, true);
        DUE.is("the floor first", book.cut(70), 16);
        DUE.is("the floor and one", book.cut(90), 18);
        DUE.is("the floor is above it", book.cut(69), NONE);
        book.ask(0, 1, 0, true);
        DUE.is("a floor of no worth", book.cut(91), 50);
        DUE.is("two floors are above it", book.cut(70), NONE);
    }

    /** "Of like ones of least sum": by a penny, wherever it stands. "Of like ones the least, as bits": of one sum. */
    private static void likeCuts() {
        int[][] rows = {{20, 21, 1}, {21, 20, 2}, {20, 20, 1}, {0, 1, 1}, {1, 0, 2}, {0, 0, 1}};
        for (int[] r : rows) {
            SupplyBook book = book();
            book.ask(0, r[0], 3, false);
            book.ask(0, r[1], 3, false);
            int total = Math.max(r[0], r[1]);
            // where both fit, both are worth more
            boolean both = r[0] + r[1] <= total;
            DUE.is("cut of " + r[0] + " and " + r[1], book.cut(total), both ? 3 : r[2]);
            DUE.is("more of " + r[0] + " and " + r[1], book.more(total), both ? 0 : r[0] + r[1] - total);
        }
        int[][] worths = {{2, 1, 1}, {1, 2, 2}, {1000000, 999999, 1}, {999999, 1000000, 2}};
        for (int[] w : worths) {
            SupplyBook book = book();
            book.ask(0, 20, w[0], false);
            book.ask(0, 20, w[1], false);
            DUE.is("cut of worths " + w[0] + " and " + w[1], book.cut(39), w[2]);
            DUE.is("of none", book.cut(19), 0);
            DUE.is("of both", book.cut(40), 3);
        }
        SupplyBook book = book();
        book.ask(0, 11, 2, false);
        book.ask(0, 10, 2, false);
        book.ask(0, 6, 1, false);
        book.ask(0, 4, 1, false);
        DUE.is("one or two of like sum: the least, as bits", book.cut(10), 2);
        DUE.is("a penny less", book.cut(9), 8);
        book.ask(0, 3, 1, false);
        DUE.is("two of less sum", book.cut(10), 24);
    }

    private static void manyItems() {
        SupplyBook book = book();
        for (int i = 0; i < 14; i++) {
            book.ask(0, MOST, 1, false);
        }
        DUE.is("one of all", book.cut(MOST), 1);
        DUE.is("more by a whole sum", book.more(MOST), MOST);
        DUE.is("more from 0", book.more(0), MOST);
        DUE.is("none", book.cut(MOST - 1), 0);
        DUE.is("more by a penny", book.more(MOST - 1), 1);
        book = book();
        for (int i = 0; i < 14; i++) {
            book.ask(0, 1 << i, 1 << i, false);
        }
        DUE.is("as bits", book.cut(9999), 9999);
        DUE.is("all", book.cut(MOST), (1 << 14) - 1);
        DUE.is("one more", book.more(9999), 1);
        DUE.is("no more", book.more(MOST), 0);
    }

    private static void mores() {
        SupplyBook book = book();
        DUE.is("of nothing", book.more(5), 0);
        DUE.is("total -1", book.more(-1), NONE);
        DUE.is("total too great", book.more(MOST + 1), NONE);
        book.ask(0, 100, 5, true);
        book.ask(0, 40, 2, false);
        book.ask(0, 30, 1, false);
        book.ask(0, 10, 0, false);
        DUE.is("99", book.more(99), NONE);
        DUE.is("100", book.more(100), 30);
        DUE.is("130", book.more(130), 10);
        DUE.is("145", book.more(145), 25);
        DUE.is("170", book.more(170), 0);
        book.ask(0, MOST, 7, false);
        DUE.is("beyond what a total can be", book.more(MOST), 100);
        DUE.is("from below", book.more(170), MOST - 70);
    }

    public static void main(String[] args) {
        asks();
        cuts();
        likeCuts();
        manyItems();
        mores();
        DUE.end();
    }
}
