/** Promises 10 to 17: votes, ceilings, advances, covers, strikes, moves, contracts and what is left. */
public final class AuthoritiesTest {
    private static final int NONE = SupplyBook.NONE;
    private static final int MOST = Due.MOST;
    private static final long NOT_LEFT = -1000000000000L;
    private static final Due DUE = new Due("AuthoritiesTest");

    private static void votes() {
        SupplyBook book = new SupplyBook();
        book.head(NONE);
        Due.feed(book, "o(a=1)");
        int[][] wrong = {{1, 0, 1, 0, 0}, {4, 0, 1, 0, 0}, {-1, 0, 1, 0, 0}, {5, 0, 1, 0, 0}, {0, 1, 1, 0, 0},
            {0, -1, 1, 0, 0}, {0, 0, -1, 0, 0}, {0, 0, MOST + 1, 0, 0}, {0, 0, 1, -1, 0}, {0, 0, 1, 10, 0},
            {0, 0, 1, 0, -1}, {0, 0, 1, 0, 21}, {0, 0, 1, 0, 201}, {0, 0, 1, 0, Integer.MAX_VALUE}};
        for (int[] w : wrong) {
            DUE.is("vote(" + w[0] + ", " + w[1] + ", " + w[2] + ", " + w[3] + ", " + w[4] + ")",
                    book.vote(w[0], w[1], w[2], w[3], w[4]), NONE);
        }
        DUE.is("the tape stays", book.count(12), 20);
        DUE.is("with words", book.vote(0, 0, 0, 0, 6), 0);
        DUE.is("empty then", book.count(12), 0);
        DUE.is("clauses of its words", book.about(0, 4), 1);
        DUE.is("carry", book.vote(2, 0, MOST, 9, 0), 1);
        DUE.is("standing", book.vote(3, 0, 5, 3, 0), 2);
        Due.feed(book, "o(a=1)");
        DUE.is("no words by 0", book.vote(0, 0, 1, 0, 0), 3);
        DUE.is("empty then, too", book.count(12), 0);
        DUE.is("no clauses", book.about(3, 4), 0);
        for (int v = 4; v < 80; v++) {
            DUE.is("vote " + v, book.vote(0, 0, 1, 0, 0), v);
        }
        Due.feed(book, "q");
        DUE.is("an 81st", book.vote(0, 0, 1, 0, 1), NONE);
        DUE.is("an 81st, ceiling", book.ceiling(0, 0, 1), NONE);
        DUE.is("an 81st, advance", book.advance(0, 0), NONE);
        DUE.is("the tape stays", book.count(12), 20);
        DUE.is("authorities", book.count(4), 80);
    }

    private static void ceilings() {
        SupplyBook book = Due.filled();
        book.head(0);
        book.head(NONE);
        book.vote(0, 0, 100, 0, 0);
        book.vote(3, 1, 100, 1, 0);
        DUE.is("ceiling", book.ceiling(0, 1, 10), 2);
        DUE.is("ceiling of a ceiling", book.ceiling(2, 1, 10), NONE);
        DUE.is("of no authority", book.ceiling(3, 1, 10), NONE);
        DUE.is("of -1", book.ceiling(-1, 1, 10), NONE);
        DUE.is("for no head", book.ceiling(0, 3, 10), NONE);
        DUE.is("for a head elsewhere", book.ceiling(0, 2, 10), NONE);
        DUE.is("for the head above", book.ceiling(1, 0, 10), NONE);
        DUE.is("sum -1", book.ceiling(0, 1, -1), NONE);
        DUE.is("sum too great", book.ceiling(0, 1, MOST + 1), NONE);
        DUE.is("of a standing one", book.ceiling(1, 1, 0), 3);
        DUE.is("its year", book.about(3, 3), 1);
        DUE.is("its authority", book.about(3, 6), 1);
        DUE.is("left ahead of its year", book.left(3, 0), NOT_LEFT);
        DUE.is("left in a later year", book.left(3, 9), 0);
        DUE.is("left of the first", book.left(2, 0), 10);
        DUE.is("left of the first in year 1", book.left(2, 1), NOT_LEFT);
        int c = book.claim(0, 1, 0, 7, NONE, false);
        int d = book.claim(0, 0, 0, 9, NONE, false);
        DUE.is("pay under it", book.pay(c), 0);
        DUE.is("pay beside it", book.pay(d), 0);
        DUE.is("left then", book.left(2, 0), 3);
    }

    private static void advances() {
        SupplyBook book = Due.filled();
        Due.law(book, 0, 0, "e1");
        DUE.is("the first", book.advance(0, 600), 0);
        DUE.is("with the first too much", book.advance(0, 401), NONE);
        DUE.is("with the first enough", book.advance(0, 400), 1);
        book = Due.filled();
        DUE.is("0 with no law", book.advance(0, 0), 0);
        DUE.is("1 with no law", book.advance(0, 1), NONE);
        Due.law(book, 0, 400, "e2");
        DUE.is("no head", book.advance(1, 1), NONE);
        DUE.is("head -1", book.advance(-1, 1), NONE);
        DUE.is("sum -1", book.advance(0, -1), NONE);
        DUE.is("sum too great", book.advance(0, MOST + 1), NONE);
        DUE.is("all above", book.advance(0, 2001), NONE);
        DUE.is("as much as may be", book.advance(0, 2000), 1);
        DUE.is("one more", book.advance(0, 1), NONE);
        DUE.is("kind", book.about(1, 0), 4);
        book.strike(1);
        DUE.is("a struck one counts", book.advance(0, 1), NONE);
        book.now(360);
        DUE.is("next year", book.advance(0, 2000), 2);
        DUE.is("its year", book.about(2, 3), 1);
        DUE.is("its day", book.about(2, 7), 360);
        DUE.is("left in its year", book.left(2, 1), 2000);
        DUE.is("left in another", book.left(2, 2), NOT_LEFT);
        book.now(401);
        DUE.is("the law is over", book.advance(0, 0), NONE);
    }

    private static void covers() {
        SupplyBook book = Due.filled();
        book.head(0);
        book.head(NONE);
        Due.law(book, "e9");
        int advance = book.advance(1, 500);
        int c = book.claim(0, 1, 0, 300, NONE, false);
        DUE.is("paid by the advance", book.pay(c), advance);
        int small = book.vote(0, 0, 299, 0, 0);
        int fits = book.vote(0, 0, 300, 0, 0);
        int struck = book.vote(0, 0, 300, 0, 0);
        int later = book.vote(0, 0, 300, 1, 0);
        int elsewhere = book.vote(0, 2, 300, 0, 0);
        int carry = book.vote(2, 0, 300, 0, 0);
        int standing = book.vote(3, 0, 300, 0, 0);
        book.strike(struck);
        int[] wrong = {small, struck, later, elsewhere, carry, standing, advance, -1, 99};
        for (int w : wrong) {
            DUE.no("cover by " + w, book.cover(advance, w));
        }
        DUE.no("cover of a vote", book.cover(fits, fits));
        DUE.no("cover of -1", book.cover(-1, fits));
        DUE.is("nothing covers it", book.about(advance, 6), NONE);
        int ceiling = book.ceiling(fits, 1, 100);
        int beside = book.claim(0, 0, 0, 5, NONE, false);
        DUE.is("paid by another", book.pay(beside), small);
        DUE.yes("cover", book.cover(advance, fits));
        DUE.is("that counts by the other", book.look(beside, 8), small);
        DUE.no("cover again", book.cover(advance, fits));
        DUE.is("by", book.about(advance, 6), fits);
        DUE.is("left of the vote", book.left(fits, 0), 0);
        DUE.is("left of the advance", book.left(advance, 0), 0);
        DUE.is("left of the ceiling", book.left(ceiling, 0), -200);
        DUE.is("the claim counts by", book.look(c, 8), fits);
        DUE.is("the chest is as it was", book.sum(0), MOST - 305);
        int d = book.claim(0, 1, 0, 1, NONE, false);
        book.strike(carry);
        book.strike(standing);
        book.strike(small);
        DUE.is("a covered advance pays no more", book.may(d), -13);
        book.strike(fits);
        DUE.is("bar 2 of a covered advance", book.may(d), -12);
        int other = book.advance(0, 5);
        DUE.no("a head above the vote's", book.cover(other, book.vote(0, 1, 9, 0, 0)));
        book.now(800);
        DUE.yes("years later, with nothing paid", book.cover(other, book.vote(0, 0, 0, 0, 0)));
    }

    private static void strikes() {
        SupplyBook book = Due.filled();
        DUE.no("strike(0) without one", book.strike(0));
        DUE.no("strike(-1)", book.strike(-1));
        book.vote(0, 0, 10, 0, 0);
        book.ceiling(0, 0, 4);
        DUE.is("not struck", book.about(0, 5), NONE);
        int c = Due.claim(book, 5);
        DUE.is("over the ceiling", book.may(c), -14);
        DUE.is("as much as the ceiling has", book.may(Due.claim(book, 4)), 0);
        book.now(3);
        DUE.yes("strike the ceiling", book.strike(1));
        DUE.is("the ceiling bars no more", book.may(c), 0);
        DUE.yes("strike", book.strike(0));
        DUE.no("strike again", book.strike(0));
        book.now(9);
        DUE.is("struck on", book.about(0, 5), 3);
        DUE.is("bar", book.may(c), -12);
        DUE.is("left stays", book.left(0, 0), 10);
    }

    private static void moves() {
        SupplyBook book = Due.filled();
        int v = book.vote(0, 0, 1009, 0, 0);
        int w = book.vote(2, 0, 0, 0, 0);
        int standing = book.vote(3, 0, 1000, 0, 0);
        int later = book.vote(0, 0, 1000, 1, 0);
        int struck = book.vote(0, 0, 1000, 0, 0);
        book.strike(struck);
        int[][] wrong = {{v, v, 1}, {v, standing, 1}, {standing, v, 1}, {v, later, 1}, {later, v, 1}, {v, struck, 1},
            {struck, v, 1}, {v, w, -1}, {v, w, MOST + 1}, {v, -1, 1}, {-1, v, 1}, {v, 99, 1}, {99, v, 1}, {v, w, 101}};
        for (int[] x : wrong) {
            DUE.no("move(" + x[0] + ", " + x[1] + ", " + x[2] + ")", book.move(x[0], x[1], x[2]));
        }
        DUE.yes("0", book.move(v, w, 0));
        DUE.yes("60", book.move(v, w, 60));
        DUE.no("41 more", book.move(v, w, 41));
        DUE.yes("40 more: a tenth, rounded down", book.move(v, w, 40));
        DUE.is("left of v", book.left(v, 0), 909);
        DUE.is("left of w", book.left(w, 0), 100);
        DUE.no("w has a sum of 0", book.move(w, v, 1));
        Due.law(book, 0, 0, "m100");
        DUE.no("what is moved to it is not of its sum", book.move(w, v, 1));
        DUE.yes("all that is left", book.move(v, w, 909));
        DUE.is("nothing left", book.left(v, 0), 0);
        DUE.no("no more is left", book.move(v, w, 1));
        int c = Due.claim(book, 1009);
        book.strike(standing);
        DUE.is("moved pence pay", book.pay(c), w);
    }

    private static void contracts() {
        SupplyBook book = Due.filled();
        Due.law(book, "e1");
        int v = book.vote(0, 0, 100, 0, 0);
        int standing = book.vote(3, 0, 50, 2, 0);
        int ceiling = book.ceiling(v, 0, 100);
        int advance = book.advance(0, 100);
        int struck = book.vote(0, 0, 100, 0, 0);
        book.strike(struck);
        int[][] wrong = {{-1, 1, 0, 0}, {99, 1, 0, 0}, {ceiling, 1, 0, 0}, {advance, 1, 0, 0}, {struck, 1, 0, 0},
            {v, -1, 0, 0}, {v, MOST + 1, 0, 0}, {v, 1, -1, 0}, {v, 1, 0, 10}, {v, 1, 0, 1}, {v, 1, 1, 1}, {v, 101, 0, 0},
            {standing, 1, 1, 2}, {standing, 1, 3, 2}, {standing, 51, 2, 3}, {standing, 1, 2, 10}};
        for (int[] x : wrong) {
            DUE.is("commit(" + x[0] + ", " + x[1] + ", " + x[2] + ", " + x[3] + ")",
                    book.commit(x[0], x[1], x[2], x[3]), NONE);
        }
        DUE.is("contract", book.commit(v, 60, 0, 0), 0);
        DUE.is("more than is left", book.commit(v, 41, 0, 0), NONE);
        DUE.is("all that is left", book.commit(v, 40, 0, 0), 1);
        DUE.is("nothing left", book.left(v, 0), 0);
        DUE.is("of years", book.commit(standing, 30, 3, 9), 2);
        DUE.is("year 2", book.left(standing, 2), 50);
        DUE.is("year 3", book.left(standing, 3), 20);
        DUE.is("year 9", book.left(standing, 9), 20);
        DUE.is("one year lacks", book.commit(standing, 21, 2, 3), NONE);
        DUE.is("year 2 alone", book.commit(standing, 50, 2, 2), 3);
        for (int i = 4; i < 20; i++) {
            DUE.is("contract " + i, book.commit(v, 0, 0, 0), i);
        }
        DUE.is("a 21st", book.commit(v, 0, 0, 0), NONE);
        DUE.is("contracts", book.count(5), 20);
        int c = book.claim(0, 0, 0, 45, 0, false);
        int d = book.claim(0, 0, 0, 16, 0, false);
        int e = book.claim(0, 0, 0, 15, 0, false);
        DUE.is("of the contract", book.pay(c), v);
        DUE.is("what was paid is bound no more", book.left(v, 0), 0);
        DUE.is("more than is bound", book.pay(d), -13);
        DUE.is("what is bound yet", book.pay(e), v);
        DUE.is("left", book.left(v, 0), 0);
        book.now(3 * 360);
        DUE.is("of the contract of years", book.pay(book.claim(0, 0, 0, 30, 2, false)), standing);
        DUE.is("no more is bound in year 3", book.may(book.claim(0, 0, 0, 1, 2, false)), -13);
        DUE.is("left in year 3", book.left(standing, 3), 20);
        DUE.is("left in year 4", book.left(standing, 4), 20);
        book.now(4 * 360);
        DUE.is("bound again in year 4", book.pay(book.claim(0, 0, 0, 30, 2, false)), standing);
    }

    private static void lefts() {
        SupplyBook book = Due.filled();
        DUE.is("no authority", book.left(0, 0), NOT_LEFT);
        int v = book.vote(0, 0, MOST, 4, 0);
        int standing = book.vote(3, 0, 100, 4, 0);
        DUE.is("left(-1, 4)", book.left(-1, 4), NOT_LEFT);
        DUE.is("year -1", book.left(v, -1), NOT_LEFT);
        DUE.is("year 10", book.left(standing, 10), NOT_LEFT);
        DUE.is("year 3", book.left(v, 3), NOT_LEFT);
        DUE.is("year 4", book.left(v, 4), MOST);
        DUE.is("year 5", book.left(v, 5), NOT_LEFT);
        DUE.is("standing, year 3", book.left(standing, 3), NOT_LEFT);
        DUE.is("standing, year 4", book.left(standing, 4), 100);
        DUE.is("standing, year 9", book.left(standing, 9), 100);
        book.strike(v);
        book.now(5 * 360);
        DUE.is("pay", book.pay(Due.claim(book, 60)), standing);
        DUE.is("standing, year 5", book.left(standing, 5), 40);
        DUE.is("standing, year 6", book.left(standing, 6), 100);
    }

    public static void main(String[] args) {
        votes();
        ceilings();
        advances();
        covers();
        strikes();
        moves();
        contracts();
        lefts();
        DUE.end();
    }
}
