/** Promises 49 to 52: looking at claims and authorities, counts and sums. */
public final class LooksTest {
    private static final int NONE = SupplyBook.NONE;
    private static final Due DUE = new Due("LooksTest");

    private static void looks() {
        SupplyBook book = Due.filled();
        book.head(0);
        book.head(1);
        book.vote(0, 0, 1000, 0, 0);
        book.commit(0, 100, 0, 0);
        int c = book.claim(1, 2, 9, 77, 0, true);
        int d = book.claim(0, 0, 0, 5, NONE, false);
        book.sign(c, 0);
        int[] dueC = {1, 2, 9, 77, 0, 1, 1, NONE, NONE, 0};
        int[] dueD = {0, 0, 0, 5, NONE, 0, 0, NONE, NONE, 0};
        for (int what = 0; what < 10; what++) {
            DUE.is("look(c, " + what + ")", book.look(c, what), dueC[what]);
            DUE.is("look(d, " + what + ")", book.look(d, what), dueD[what]);
        }
        book.now(9);
        book.pay(c);
        DUE.is("paid on", book.look(c, 7), 9);
        DUE.is("paid by", book.look(c, 8), 0);
        int[][] wrong = {{-1, 0}, {2, 0}, {0, -1}, {0, 10}, {0, Integer.MAX_VALUE}};
        for (int[] w : wrong) {
            DUE.is("look(" + w[0] + ", " + w[1] + ")", book.look(w[0], w[1]), NONE);
        }
    }

    private static void abouts() {
        SupplyBook book = Due.filled();
        book.head(0);
        book.now(400);
        Due.law(book, "e1");
        Due.vote(book, 0, 0, 1000, 1, "o(a>0);n(a<0);t(a>999)");
        book.now(401);
        book.ceiling(0, 1, 30);
        book.advance(1, 40);
        book.vote(3, 1, 50, 7, 0);
        int[][] rows = {{0, 0, 1000, 1, 3, NONE, NONE, 400}, {1, 1, 30, 1, 0, NONE, 0, 401},
            {4, 1, 40, 1, 0, NONE, NONE, 401}, {3, 1, 50, 7, 0, NONE, NONE, 401}};
        for (int v = 0; v < rows.length; v++) {
            for (int what = 0; what < 8; what++) {
                DUE.is("about(" + v + ", " + what + ")", book.about(v, what), rows[v][what]);
            }
        }
        book.now(402);
        book.cover(2, 0);
        book.strike(3);
        DUE.is("covered by", book.about(2, 6), 0);
        DUE.is("struck on", book.about(3, 5), 402);
        int[][] wrong = {{-1, 0}, {4, 0}, {0, -1}, {0, 8}, {0, Integer.MIN_VALUE}};
        for (int[] w : wrong) {
            DUE.is("about(" + w[0] + ", " + w[1] + ")", book.about(w[0], w[1]), NONE);
        }
    }

    private static void countsAndSums() {
        SupplyBook book = Due.filled();
        book.head(0);
        book.head(0);
        book.now(370);
        for (int i = 0; i < 4; i++) {
            Due.law(book, "b9");
        }
        for (int i = 0; i < 5; i++) {
            book.vote(3, 0, 100, 0, 0);
        }
        for (int i = 0; i < 6; i++) {
            book.commit(0, 1, 1, 1);
        }
        for (int i = 0; i < 8; i++) {
            Due.claim(book, 10);
        }
        for (int i = 0; i < 7; i++) {
            book.pay(i);
        }
        for (int i = 0; i < 9; i++) {
            book.ask(0, 1, 1, false);
        }
        for (int i = 0; i < 8; i++) {
            book.offer(1, 1, 1, 1);
        }
        book.bid(500, 7200);
        book.bid(600, 9000);
        DUE.is("tender", book.tender(1000, false), 2);
        book.bid(1, 1);
        book.close(0);
        book.due(3, 33);
        book.due(4, 44);
        book.now(371);
        book.comes(1, 5);
        book.now(380);
        book.repay(0);
        Due.feed(book, "x");
        int[] counts = {380, 3, 2, 4, 5, 6, 8, 7, 9, 8, 1, 2, 20, 1};
        for (int what = 0; what < counts.length; what++) {
            DUE.is("count(" + what + ")", book.count(what), counts[what]);
        }
        long[] sums = {Due.MOST - 70 + 1000 + 5 - 510, Due.MOST + 5, 70, 500, 10, 77};
        for (int what = 0; what < sums.length; what++) {
            DUE.is("sum(" + what + ")", book.sum(what), sums[what]);
        }
        int[] wrong = {-1, 14, Integer.MAX_VALUE, Integer.MIN_VALUE};
        for (int w : wrong) {
            DUE.is("count(" + w + ")", book.count(w), NONE);
            DUE.is("sum(" + w + ")", book.sum(w), NONE);
        }
        DUE.is("sum(6)", book.sum(6), NONE);
    }

    public static void main(String[] args) {
        looks();
        abouts();
        countsAndSums();
        DUE.end();
    }
}
