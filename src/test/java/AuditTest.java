/** Promises 37 to 48: draws, tests, what is found, questions, falls, surcharges, finds, closing and the check. */
public final class AuditTest {
    private static final int NONE = SupplyBook.NONE;
    private static final int MOST = Due.MOST;
    private static final Due DUE = new Due("AuditTest");

    /** A book in which claims of these sums were paid today, the last one first. */
    private static SupplyBook paidBook(int... sums) {
        SupplyBook book = Due.filled();
        book.vote(3, 0, MOST, 0, 0);
        for (int sum : sums) {
            Due.claim(book, sum);
        }
        for (int c = sums.length - 1; c >= 0; c--) {
            book.pay(c);
        }
        return book;
    }

    private static void drawn(SupplyBook book, int year, int... claims) {
        for (int i = 0; i < claims.length; i++) {
            DUE.is("drawn(" + year + ", " + i + ")", book.drawn(year, i), claims[i]);
        }
        DUE.is("drawn behind the last", book.drawn(year, claims.length), NONE);
        DUE.is("drawn at -1", book.drawn(year, -1), NONE);
    }

    private static void draws() {
        SupplyBook book = paidBook(10, 1, 9, 20, 5);
        int[][] wrong = {{-1, 0, 1}, {10, 0, 1}, {0, -1, 1}, {0, 1, 1}, {0, 0, 0}, {0, 0, -1}, {0, 5, 4},
            {0, 0, MOST + 1}, {0, MOST, MOST}, {0, Integer.MIN_VALUE, 1}};
        for (int[] w : wrong) {
            DUE.is("draw(" + w[0] + ", " + w[1] + ", " + w[2] + ")", book.draw(w[0], w[1], w[2]), NONE);
        }
        drawn(book, 0);
        DUE.is("each penny", book.draw(0, 0, 1), 5);
        drawn(book, 0, 0, 1, 2, 3, 4);
        DUE.is("places 9, 19, 29, 39", book.draw(0, 9, 10), 3);
        drawn(book, 0, 0, 2, 3);
        DUE.is("places 10, 30", book.draw(0, 10, 20), 2);
        drawn(book, 0, 1, 3);
        DUE.is("place 40", book.draw(0, 40, 50), 1);
        drawn(book, 0, 4);
        DUE.is("place 44", book.draw(0, 44, MOST), 1);
        drawn(book, 0, 4);
        DUE.is("place 45 is behind all", book.draw(0, 45, MOST), 0);
        drawn(book, 0);
        DUE.is("another year", book.draw(1, 0, 1), 0);
        DUE.is("drawn(-1, 0)", book.drawn(-1, 0), NONE);
        DUE.is("drawn(10, 0)", book.drawn(10, 0), NONE);
        book.draw(0, 0, 45);
        book.now(360);
        book.pay(Due.claim(book, 7));
        DUE.is("year 1", book.draw(1, 6, 7), 1);
        drawn(book, 1, 5);
        drawn(book, 0, 0);
        Due.claim(book, 1);
        book.pay(6);
        drawn(book, 1, 5);
    }

    private static void tests() {
        SupplyBook book = paidBook(10, 20, 30);
        Due.claim(book, 5);
        DUE.no("not drawn", book.test(0, 1));
        DUE.is("places 0 and 30", book.draw(0, 0, 30), 2);
        DUE.no("claim -1", book.test(-1, 0));
        DUE.no("no claim", book.test(4, 0));
        DUE.no("not paid", book.test(3, 0));
        DUE.no("not drawn", book.test(1, 0));
        DUE.no("fault -1", book.test(0, -1));
        DUE.no("fault above its sum", book.test(0, 11));
        DUE.yes("all of it", book.test(0, 10));
        DUE.is("found", book.found(0, 0), 10);
        DUE.yes("instead", book.test(0, 4));
        DUE.is("found", book.found(0, 0), 4);
        DUE.yes("no fault", book.test(2, 0));
        DUE.is("found", book.found(0, 0), 4);
        DUE.is("what is not right", book.found(0, 2), 4 + 20);
    }

    private static void founds() {
        SupplyBook book = paidBook(10, 20, 30);
        DUE.is("nothing drawn, 0", book.found(0, 0), 0);
        DUE.is("nothing drawn, 1", book.found(0, 1), 0);
        DUE.is("nothing drawn, 2", book.found(0, 2), 60);
        book.draw(0, 5, 20);
        drawn(book, 0, 0, 1, 2);
        book.test(0, 3);
        book.test(1, 7);
        book.test(2, 11);
        DUE.is("faults", book.found(0, 0), 21);
        DUE.is("3 times 20 through 10, and themselves", book.found(0, 1), 6 + 7 + 11);
        DUE.is("not right", book.found(0, 2), 21);
        book.draw(0, 10, 21);
        drawn(book, 0, 1, 2);
        DUE.is("7 times 21 through 20, rounded down", book.found(0, 1), 7 + 11);
        DUE.is("what is not drawn is not right", book.found(0, 2), 10 + 7 + 11);
        book.draw(0, 0, 1);
        DUE.is("what was tested stays so", book.found(0, 0), 21);
        DUE.is("year -1", book.found(-1, 0), NONE);
        DUE.is("year 10", book.found(10, 0), NONE);
        DUE.is("what -1", book.found(0, -1), NONE);
        DUE.is("what 3", book.found(0, 3), NONE);
        book = paidBook(MOST - 1);
        book.draw(0, 0, MOST);
        book.test(0, MOST - 1);
        DUE.is("much", book.found(0, 1), MOST);
        book = paidBook(1);
        book.draw(0, 0, 70);
        book.test(0, 1);
        DUE.is("one penny stands for a step", book.found(0, 1), 70);
    }

    private static void questions() {
        SupplyBook book = paidBook(10, 20);
        Due.claim(book, 5);
        DUE.no("claim -1", book.question(-1));
        DUE.no("no claim", book.question(3));
        DUE.no("not paid", book.question(2));
        DUE.no("no open one", book.answer(0, true));
        DUE.no("answer of -1", book.answer(-1, true));
        DUE.no("answer of no claim", book.answer(3, false));
        DUE.is("none", book.look(0, 9), 0);
        DUE.yes("question", book.question(0));
        DUE.is("open", book.look(0, 9), 1);
        DUE.no("again", book.question(0));
        DUE.yes("well", book.answer(0, true));
        DUE.is("well answered", book.look(0, 9), 2);
        DUE.no("asked once", book.question(0));
        DUE.no("answered once", book.answer(0, false));
        DUE.is("no surcharge", book.surcharged(0), 0);
        DUE.yes("question", book.question(1));
        DUE.yes("not well", book.answer(1, false));
        DUE.is("not well answered", book.look(1, 9), 3);
        DUE.is("surcharge", book.surcharged(0), 20);
        DUE.is("no surcharge of others", book.surcharged(1), 0);
    }

    private static void parts() {
        SupplyBook book = Due.filled();
        book.hand(0, 1);
        book.hand(0, 1);
        book.vote(0, 0, MOST, 0, 0);
        int c = book.claim(2, 0, 0, 11, NONE, false);
        book.sign(c, 3);
        book.sign(c, 1);
        book.sign(c, 0);
        book.pay(c);
        book.question(c);
        book.answer(c, false);
        int[] dues = {3, 3, 3, 2};
        for (int h = 0; h < 4; h++) {
            DUE.is("surcharged(" + h + ")", book.surcharged(h), dues[h]);
        }
        c = book.claim(3, 0, 0, 1, NONE, false);
        book.sign(c, 2);
        book.pay(c);
        book.question(c);
        book.answer(c, false);
        DUE.is("the penny goes to the lowest", book.surcharged(2), 4);
        DUE.is("not to its own hand", book.surcharged(3), 2);
        DUE.is("surcharged(-1)", book.surcharged(-1), NONE);
        DUE.is("surcharged(4)", book.surcharged(4), NONE);
    }

    private static SupplyBook advanced(int days) {
        SupplyBook book = Due.filled();
        Due.law(book, "e9;d" + days);
        book.now(100);
        book.advance(0, 1000);
        book.pay(Due.claim(book, 100));
        book.pay(Due.claim(book, 201));
        return book;
    }

    private static void falls() {
        SupplyBook book = advanced(7);
        book.vote(0, 0, 1000, 0, 0);
        DUE.is("falls(-1)", book.falls(-1), NONE);
        DUE.is("falls(2)", book.falls(2), NONE);
        DUE.is("a vote", book.falls(1), NONE);
        book.pay(Due.claim(book, 40));
        Due.claim(book, 50);
        book.now(107);
        DUE.is("day 7", book.falls(0), NONE);
        DUE.yes("question", book.question(0));
        DUE.yes("not well", book.answer(0, false));
        book.now(108);
        DUE.is("day 8: what is not surcharged yet", book.falls(0), 201);
        DUE.is("asked for", book.falls(0), NONE);
        DUE.is("surcharged", book.surcharged(0), 301);
        DUE.yes("question", book.question(1));
        DUE.yes("not well", book.answer(1, false));
        DUE.is("not twice", book.surcharged(0), 301);
        book = advanced(7);
        book.vote(0, 0, 1000, 0, 0);
        book.now(107);
        book.cover(0, 1);
        book.now(200);
        DUE.is("covered in time", book.falls(0), NONE);
        book = advanced(7);
        book.vote(0, 0, 1000, 0, 0);
        book.now(108);
        DUE.yes("covered too late", book.cover(0, 1));
        DUE.is("falls all the same", book.falls(0), 301);
        book = advanced(0);
        DUE.is("no day ahead", book.falls(0), NONE);
        book.now(101);
        DUE.is("one day", book.falls(0), 301);
        book = Due.filled();
        Due.law(book, 0, 10, "e9;d5");
        Due.law(book, 11, 3599, "d90");
        book.now(10);
        book.advance(0, 10);
        book.now(16);
        DUE.is("the number of the day it was told, nothing paid", book.falls(0), 0);
        DUE.is("once", book.falls(0), NONE);
    }

    private static void finds() {
        SupplyBook book = paidBook(200, 50);
        Due.claim(book, 5);
        DUE.no("claim -1", book.find(-1, 1));
        DUE.no("no claim", book.find(3, 1));
        DUE.no("not paid", book.find(2, 1));
        DUE.no("sum 0", book.find(0, 0));
        DUE.no("sum -1", book.find(0, -1));
        DUE.no("more than its sum", book.find(0, 201));
        DUE.no("the least int", book.find(0, Integer.MIN_VALUE));
        DUE.yes("all of the small one", book.find(1, 50));
        DUE.no("no more of it", book.find(1, 1));
        for (int i = 1; i < 100; i++) {
            DUE.yes("find " + i, book.find(0, 1));
        }
        DUE.no("a 101st", book.find(0, 1));
        DUE.is("paid", book.paid(0, 0, 0), 250 - 50 - 99);
    }

    private static void paids() {
        SupplyBook book = Due.filled();
        book.head(0);
        book.vote(3, 0, MOST, 0, 0);
        book.now(5);
        book.pay(book.claim(0, 1, 0, 100, NONE, false));
        book.now(6);
        book.pay(book.claim(0, 0, 0, 1000, NONE, false));
        book.now(400);
        book.pay(book.claim(0, 1, 0, 7, NONE, false));
        book.find(0, 30);
        book.now(500);
        book.find(1, 300);
        int[][] rows = {{0, 0, 4, 0}, {0, 0, 5, 100}, {0, 0, 6, 1100}, {0, 0, 399, 1100}, {0, 0, 400, 1070},
            {0, 0, 499, 1070}, {0, 0, 500, 770}, {0, 0, 3599, 770}, {0, 1, 6, 100}, {0, 1, 500, 70}, {1, 0, 399, 0},
            {1, 0, 400, 7}, {1, 1, 3599, 7}, {9, 0, 3599, 0}, {-1, 0, 0, NONE}, {10, 0, 0, NONE}, {0, -1, 0, NONE},
            {0, 2, 0, NONE}, {0, 0, -1, NONE}, {0, 0, 3600, NONE}};
        for (int[] r : rows) {
            DUE.is("paid(" + r[0] + ", " + r[1] + ", " + r[2] + ")", book.paid(r[0], r[1], r[2]), r[3]);
        }
    }

    private static void closes() {
        SupplyBook book = Due.filled();
        Due.law(book, 359, 359, "c33");
        Due.law(book, 719, 719, "c100");
        int carry = Due.vote(book, 2, 0, 1000, 0, "t(a>50);o(a<999)");
        int struck = book.vote(2, 0, 1000, 0, 0);
        book.vote(2, 0, 3, 0, 0);
        book.vote(0, 0, 1000, 0, 0);
        book.vote(2, 0, 1000, 1, 0);
        book.move(3, carry, 100);
        DUE.is("this year", book.close(0), NONE);
        DUE.is("year -1", book.close(-1), NONE);
        DUE.is("next to be closed", book.count(13), 0);
        book.now(720);
        book.strike(struck);
        DUE.is("an earlier one was not", book.close(1), NONE);
        DUE.is("close", book.close(0), 1);
        DUE.is("it was", book.close(0), NONE);
        DUE.is("kind", book.about(5, 0), 2);
        DUE.is("head", book.about(5, 1), 0);
        DUE.is("33 of 1100", book.about(5, 2), 363);
        DUE.is("year", book.about(5, 3), 1);
        DUE.is("words", book.about(5, 4), 2);
        DUE.is("not struck", book.about(5, 5), NONE);
        DUE.is("told", book.about(5, 7), 720);
        DUE.is("what was left stays", book.left(carry, 0), 1100);
        DUE.is("the next one: all carries of year 1", book.close(1), 2);
        DUE.is("its sum", book.about(6, 2), 1000);
        DUE.is("its sum", book.about(7, 2), 363);
        DUE.is("its words", book.about(7, 4), 2);
        DUE.is("next to be closed", book.count(13), 2);
        DUE.is("this year", book.close(2), NONE);
        book.now(3599);
        for (int year = 2; year < 9; year++) {
            DUE.is("close(" + year + ")", book.close(year), 0);
        }
        DUE.is("close(9)", book.close(9), NONE);
        DUE.is("close(10)", book.close(10), NONE);
    }

    private static void closesAtTheEdge() {
        SupplyBook book = Due.filled();
        Due.law(book, "c100;m100");
        book.vote(2, 0, MOST, 0, 0);
        book.vote(2, 0, MOST, 0, 0);
        book.move(0, 1, MOST);
        for (int v = 2; v < 79; v++) {
            book.vote(2, 0, 5, 0, 0);
        }
        book.now(360);
        DUE.is("one place is free", book.close(0), 1);
        SupplyBook pennies = Due.filled();
        Due.law(pennies, "c50");
        pennies.vote(2, 0, 1, 0, 0);
        pennies.vote(2, 0, 2, 0, 0);
        pennies.now(360);
        DUE.is("half a penny is none, one is", pennies.close(0), 1);
        DUE.is("one penny", pennies.about(2, 2), 1);
        DUE.is("at most", book.about(79, 2), MOST);
        DUE.is("80", book.count(4), 80);
        book.now(720);
        DUE.is("no place is free", book.close(1), 0);
        DUE.is("closed", book.count(13), 2);
    }

    private static void checks() {
        SupplyBook book = advanced(7);
        book.vote(0, 0, 1000, 0, 0);
        book.now(101);
        Due.claim(book, 1);
        book.cover(0, 1);
        Due.claim(book, 1);
        book.pay(3);
        book.pay(2);
        int[] right = {0, 0, 100, 1, 0, 100, 3, 1, 101, 2, 1, 101};
        check(book, 0, 4, NONE, right);
        for (int i = 0; i < right.length; i++) {
            int[] wrong = right.clone();
            wrong[i] ^= 1 << 31;
            check(book, 0, 4, i, wrong);
            wrong[i] = right[i] + 256;
            check(book, 0, 4, i, wrong);
        }
        check(book, 0, 3, 9, right);
        check(book, 0, 1, 3, right);
        check(book, 0, 0, 0, right);
        check(book, 0, 5, 12, 0, 0, 100, 1, 0, 100, 3, 1, 101, 2, 1, 101, 0, 0, 0);
        check(book, 1, 0, NONE, right);
        check(book, 1, 1, 0, right);
        book.now(360);
        book.vote(0, 0, 9, 1, 0);
        book.pay(Due.claim(book, 1));
        check(book, 1, 1, NONE, 4, 2, 360);
        check(book, 0, 4, NONE, right);
        Due.feedNumbers(book, right);
        int[][] wrong = {{-1, 0}, {10, 0}, {0, -1}, {0, 6}, {0, Integer.MAX_VALUE}, {0, Integer.MIN_VALUE},
            {0, 357913942}};
        for (int[] w : wrong) {
            DUE.is("check(" + w[0] + ", " + w[1] + ")", book.check(w[0], w[1]), -2);
        }
        DUE.is("the tape stays", book.count(12), 60);
        DUE.is("all of it", book.check(0, 5), 12);
        DUE.is("empty then", book.count(12), 0);
    }

    private static void check(SupplyBook book, int year, int n, int want, int... numbers) {
        Due.feedNumbers(book, numbers);
        DUE.is("check(" + year + ", " + n + ")", book.check(year, n), want);
        DUE.is("empty then", book.count(12), 0);
    }

    public static void main(String[] args) {
        draws();
        tests();
        founds();
        questions();
        parts();
        falls();
        finds();
        paids();
        closes();
        closesAtTheEdge();
        checks();
        DUE.end();
    }
}
