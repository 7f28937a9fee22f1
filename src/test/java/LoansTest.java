/** Promises 33 to 36: bids, tenders, loans and their interest. */
public final class LoansTest {
    private static final int NONE = SupplyBook.NONE;
    private static final int MOST = Due.MOST;
    private static final Due DUE = new Due("LoansTest");

    private static void bids() {
        SupplyBook book = new SupplyBook();
        DUE.is("sum 0", book.bid(0, 1), NONE);
        DUE.is("sum -1", book.bid(-1, 1), NONE);
        DUE.is("sum too great", book.bid(MOST + 1, 1), NONE);
        DUE.is("rate -1", book.bid(1, -1), NONE);
        DUE.is("rate 10000", book.bid(1, 10000), NONE);
        DUE.is("least", book.bid(1, 0), 0);
        DUE.is("greatest", book.bid(MOST, 9999), 1);
        for (int i = 2; i < 12; i++) {
            DUE.is("bid " + i, book.bid(1, 1), i);
        }
        DUE.is("a 13th", book.bid(1, 1), NONE);
        DUE.is("bids", book.count(10), 12);
        DUE.is("refused without a law", book.tender(1, false), NONE);
        DUE.is("bids stay", book.count(10), 12);
        DUE.is("nothing came", book.sum(0), 0);
        DUE.is("no loans", book.count(11), 0);
    }

    private static SupplyBook book(String text) {
        SupplyBook book = new SupplyBook();
        Due.law(book, text);
        return book;
    }

    private static void tenders() {
        SupplyBook book = book("b2");
        DUE.is("sum 0", book.tender(0, false), NONE);
        DUE.is("sum -1", book.tender(-1, false), NONE);
        DUE.is("sum too great", book.tender(MOST + 1, false), NONE);
        DUE.is("without bids", book.tender(5, false), 0);
        book.bid(500, 30);
        book.bid(500, 20);
        book.bid(500, 30);
        book.bid(500, 10);
        book.bid(9, 40);
        DUE.is("above what may be owed", book.tender(2001, false), NONE);
        DUE.is("bids stay", book.count(10), 5);
        DUE.is("tender", book.tender(1300, false), 3);
        DUE.is("bids are gone", book.count(10), 0);
        int[][] made = {{500, 10}, {500, 20}, {300, 30}};
        for (int i = 0; i < 3; i++) {
            DUE.is("sum of " + i, book.loan(i, 0), made[i][0]);
            DUE.is("rate of " + i, book.loan(i, 1), made[i][1]);
        }
        DUE.is("the chest", book.sum(0), 1300);
        DUE.is("owed", book.sum(3), 1300);
        SupplyBook like = book("b2");
        like.bid(5, 7);
        like.bid(6, 7);
        DUE.is("of like ones by numbers", like.tender(9, false), 2);
        DUE.is("the first", like.loan(0, 0), 5);
        DUE.is("the second", like.loan(1, 0), 4);
        book.bid(701, 1);
        DUE.is("together above", book.tender(MOST, false), NONE);
        DUE.is("together as much as may be", book.tender(700, false), 1);
        book.bid(1, 1);
        DUE.is("one penny more", book.tender(1, true), NONE);
        DUE.yes("one is paid back", book.repay(3));
        DUE.is("then", book.tender(1, true), 1);
    }

    private static void onePrice() {
        SupplyBook book = book("b9");
        book.now(77);
        book.bid(10, 30);
        book.bid(10, 20);
        book.bid(10, 30);
        book.bid(10, 99);
        DUE.is("tender", book.tender(30, true), 3);
        int[] rates = {30, 30, 30};
        for (int i = 0; i < 3; i++) {
            DUE.is("rate of " + i, book.loan(i, 1), rates[i]);
            DUE.is("day of " + i, book.loan(i, 2), 77);
        }
        book.bid(10, 8);
        book.bid(10, 7);
        DUE.is("more than is bid", book.tender(500, true), 2);
        DUE.is("the lower first", book.loan(3, 1), 8);
        DUE.is("owed", book.sum(3), 50);
        book.bid(4, 5);
        book.bid(6, 3);
        DUE.is("one bid is enough", book.tender(6, true), 1);
        DUE.is("at the highest taken", book.loan(5, 1), 3);
    }

    private static void manyLoans() {
        SupplyBook book = book("b9");
        for (int t = 0; t < 2; t++) {
            for (int i = 0; i < 12; i++) {
                book.bid(1, 1);
            }
            DUE.is("twelve", book.tender(12, false), 12);
        }
        for (int i = 0; i < 12; i++) {
            book.bid(1, 1);
        }
        book.repay(0);
        DUE.is("more than 30", book.tender(7, false), NONE);
        DUE.is("30", book.tender(6, false), 6);
        DUE.is("loans", book.count(11), 30);
        DUE.is("none taken", book.tender(6, false), 0);
        book.bid(1, 1);
        DUE.is("a 31st", book.tender(1, false), NONE);
    }

    private static void lawOver() {
        SupplyBook book = new SupplyBook();
        Due.law(book, 0, 9, "b1");
        book.bid(10, 0);
        book.tender(10, false);
        book.now(10);
        DUE.is("what is owed is above it", book.tender(1, false), NONE);
    }

    private static void interest() {
        SupplyBook book = book("b999999");
        book.bid(999999000, 9999);
        book.bid(1000, 10);
        DUE.is("two", book.tender(999999000, false), 2);
        DUE.is("none on the first day", book.loan(1, 4), 0);
        DUE.is("the small one's sum", book.loan(0, 0), 1000);
        book.now(359);
        DUE.is("a day less than a year", book.loan(0, 4), 0);
        book.now(360);
        DUE.is("a year", book.loan(0, 4), 1);
        book.now(3599);
        long whole = 999998000L * 9999 * 3599 / 3600000;
        DUE.is("much", book.loan(1, 4), whole);
        DUE.is("nearly ten years", book.loan(0, 4), 9);
        int[][] wrong = {{-1, 0}, {2, 0}, {0, -1}, {0, 5}};
        for (int[] w : wrong) {
            DUE.is("loan(" + w[0] + ", " + w[1] + ")", book.loan(w[0], w[1]), NONE);
        }
    }

    private static void repays() {
        SupplyBook book = book("b9");
        DUE.no("no loan", book.repay(0));
        DUE.no("loan -1", book.repay(-1));
        book.bid(1000, 1000);
        book.tender(1000, false);
        DUE.is("not paid back", book.loan(0, 3), NONE);
        book.now(360);
        DUE.is("interest", book.loan(0, 4), 100);
        DUE.no("the chest has not so much", book.repay(0));
        book.comes(0, 99);
        DUE.no("a penny lacks", book.repay(0));
        book.comes(0, 1);
        DUE.yes("repay", book.repay(0));
        DUE.no("again", book.repay(0));
        DUE.is("the chest", book.sum(0), 0);
        DUE.is("interest paid", book.sum(4), 100);
        DUE.is("owed", book.sum(3), 0);
        book.now(720);
        DUE.is("interest stays", book.loan(0, 4), 100);
        DUE.is("paid back on", book.loan(0, 3), 360);
        DUE.is("its sum stays", book.loan(0, 0), 1000);
    }

    public static void main(String[] args) {
        bids();
        tenders();
        onePrice();
        manyLoans();
        lawOver();
        interest();
        repays();
        DUE.end();
    }
}
