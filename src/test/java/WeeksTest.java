/** Promises 25 to 32: taxes and what is foretold, dues, the chest by weeks, offers and the plan. */
public final class WeeksTest {
    private static final int NONE = SupplyBook.NONE;
    private static final int MOST = Due.MOST;
    private static final Due DUE = new Due("WeeksTest");

    private static void comes() {
        SupplyBook book = new SupplyBook();
        DUE.no("tax -1", book.comes(-1, 1));
        DUE.no("tax 6", book.comes(6, 1));
        DUE.no("sum -1", book.comes(0, -1));
        DUE.no("sum too great", book.comes(0, MOST + 1));
        DUE.yes("0", book.comes(5, 0));
        DUE.yes("1", book.comes(0, 1));
        DUE.no("more than may come in a week", book.comes(0, MOST));
        DUE.yes("as much as may", book.comes(0, MOST - 1));
        DUE.no("a penny more", book.comes(0, 1));
        DUE.yes("of another tax", book.comes(5, MOST));
        book.now(6);
        DUE.no("the week's last day", book.comes(0, 1));
        book.now(7);
        DUE.yes("the next week", book.comes(0, 1));
        DUE.is("the chest", book.sum(0), 2L * MOST + 1);
        DUE.is("all that came", book.sum(1), 2L * MOST + 1);
    }

    private static void came() {
        SupplyBook book = new SupplyBook();
        book.now(359);
        book.comes(3, 11);
        book.comes(3, 22);
        book.now(360);
        book.comes(3, 44);
        DUE.is("the last week of year 0", book.came(3, 0, 51), 33);
        DUE.is("the first week of year 1", book.came(3, 1, 0), 44);
        DUE.is("another tax", book.came(2, 1, 0), 0);
        DUE.is("another week", book.came(3, 1, 1), 0);
        int[][] wrong = {{-1, 0, 0}, {6, 0, 0}, {0, -1, 0}, {0, 10, 0}, {0, 0, -1}, {0, 0, 52},
            {0, Integer.MIN_VALUE, 0}, {0, 0, Integer.MAX_VALUE}};
        for (int[] w : wrong) {
            DUE.is("came(" + w[0] + ", " + w[1] + ", " + w[2] + ")", book.came(w[0], w[1], w[2]), NONE);
        }
    }

    /** What came of a tax in weeks 0 to 51 of the year of now. */
    private static void fill(SupplyBook book, int year, int k, int... sums) {
        for (int week = 0; week < sums.length; week++) {
            book.now(year * 360 + week * 7);
            book.comes(k, sums[week]);
        }
    }

    private static void foretold() {
        SupplyBook book = new SupplyBook();
        fill(book, 0, 2, 9, 100, 0, 50, 10, 7, 3, 1000);
        DUE.is("year 0", book.foretold(2, 8, 0), 0);
        DUE.is("the week of now", book.foretold(2, 7, 0), NONE);
        fill(book, 1, 2, 5000);
        for (int what = 0; what < 3; what++) {
            DUE.is("no past weeks, " + what, book.foretold(2, 7, what), 1000);
        }
        fill(book, 1, 2, 0, 30, 77, 60, 5);
        // now is week 4: weeks 0 to 3 are past, week 2 had nothing the year before
        DUE.is("by 5090 of 159", book.foretold(2, 7, 0), 1000L * 5090 / 159);
        DUE.is("the least: 30 of 100", book.foretold(2, 7, 1), 300);
        DUE.is("the greatest: 5000 of 9", book.foretold(2, 7, 2), 1000L * 5000 / 9);
        book.now(360 + 5 * 7);
        // weeks 1 to 4: 30 of 100, 60 of 50, 5 of 10
        DUE.is("by 95 of 160", book.foretold(2, 7, 0), 593);
        DUE.is("the least", book.foretold(2, 7, 1), 300);
        DUE.is("the greatest", book.foretold(2, 7, 2), 1200);
        DUE.is("rounded down", book.foretold(2, 6, 0), 1);
        DUE.is("a week without a base", book.foretold(2, 20, 2), 0);
        DUE.is("another tax", book.foretold(1, 7, 0), 0);
        int[][] wrong = {{-1, 7, 0}, {6, 7, 0}, {2, 5, 0}, {2, 4, 0}, {2, -1, 0}, {2, 52, 0}, {2, 7, -1}, {2, 7, 3}};
        for (int[] w : wrong) {
            DUE.is("foretold(" + w[0] + ", " + w[1] + ", " + w[2] + ")", book.foretold(w[0], w[1], w[2]), NONE);
        }
        book.now(360 + 51 * 7);
        DUE.is("no week is behind the last", book.foretold(2, 51, 0), NONE);
        book.now(720 + 9 * 7);
        DUE.is("a year later: nothing came in past weeks", book.foretold(2, 10, 0), 0);
    }

    private static void greatSums() {
        SupplyBook book = new SupplyBook();
        fill(book, 0, 0, MOST, MOST, MOST, MOST, MOST, MOST);
        fill(book, 1, 0, MOST, MOST, MOST, MOST, 0);
        DUE.is("the greatest that can be", book.foretold(0, 5, 0), MOST);
        DUE.is("its span", book.foretold(0, 5, 2), MOST);
        SupplyBook few = new SupplyBook();
        fill(few, 0, 0, 1, 0, 0, 0, 0, MOST);
        fill(few, 1, 0, MOST, 0);
        DUE.is("a great one of a penny", few.foretold(0, 5, 0), (long) MOST * MOST);
    }

    private static void dues() {
        SupplyBook book = new SupplyBook();
        DUE.no("week -1", book.due(-1, 1));
        DUE.no("week 52", book.due(52, 1));
        DUE.no("sum -1", book.due(0, -1));
        DUE.no("sum too great", book.due(0, MOST + 1));
        DUE.yes("a week that is past", book.due(0, 5));
        DUE.yes("0", book.due(51, 0));
        DUE.yes("much", book.due(51, MOST));
        DUE.yes("more", book.due(51, MOST));
        DUE.is("dues of this year", book.sum(5), 2L * MOST + 5);
        book.now(360);
        DUE.is("of the next", book.sum(5), 0);
    }

    private static void shortWeeks() {
        SupplyBook book = new SupplyBook();
        DUE.is("nothing is due", book.shortWeek(), NONE);
        book.due(0, 100);
        DUE.is("dues of the week of now do not count", book.shortWeek(), NONE);
        book.comes(0, 100);
        book.due(1, 100);
        DUE.is("0 is not below 0", book.shortWeek(), NONE);
        book.due(51, 1);
        DUE.is("the last week", book.shortWeek(), 51);
        book.due(1, 1);
        DUE.is("the first that is short", book.shortWeek(), 1);
        book.now(7);
        DUE.is("week 1 is not behind", book.shortWeek(), NONE);
        DUE.is("but for week 51", book.sum(0), 100);
        book.due(51, 100);
        DUE.is("then it is short", book.shortWeek(), 51);
        book.now(359);
        DUE.is("none is behind the last week", book.shortWeek(), NONE);
    }

    private static void worstOfTaxes() {
        SupplyBook two = new SupplyBook();
        for (int week = 0; week < 5; week++) {
            two.now(week * 7);
            two.comes(0, week == 4 ? 50 : week < 3 ? 100 : 0);
            two.comes(1, week == 4 ? 30 : 0);
        }
        two.now(360);
        two.comes(0, 200);
        two.now(367);
        two.comes(0, 20);
        two.now(374);
        // tax 0 in week 4: 50 by 2 or by a fifth: 10 at least; tax 1: 30, having no past weeks
        DUE.is("the least of tax 0", two.foretold(0, 4, 1), 10);
        DUE.is("the least of tax 1", two.foretold(1, 4, 1), 30);
        int chest = (int) two.sum(0);
        two.due(4, chest + 40);
        DUE.is("both together are enough", two.shortWeek(), NONE);
        two.due(4, 1);
        DUE.is("a penny more is not there by the worst", two.shortWeek(), 4);
        two.offer(1, 4, 51, 7);
        DUE.is("by an offer it is", two.judge(1), 7);
        DUE.is("offers are no part of what is short", two.shortWeek(), 4);
        two.due(3, chest);
        DUE.is("week 3 takes all, week 4 is short", two.shortWeek(), 4);
        two.due(3, 1);
        DUE.is("week 3 is short", two.shortWeek(), 3);
    }

    private static void offers() {
        SupplyBook book = new SupplyBook();
        int[][] wrong = {{-1, 0, 1, 0}, {MOST + 1, 0, 1, 0}, {0, -1, 1, 0}, {0, 52, 1, 0}, {0, 0, 0, 0}, {0, 0, 52, 0},
            {0, 0, 1, -1}, {0, 0, 1, MOST + 1}};
        for (int[] w : wrong) {
            DUE.is("offer(" + w[0] + ", " + w[1] + ", " + w[2] + ", " + w[3] + ")",
                    book.offer(w[0], w[1], w[2], w[3]), NONE);
        }
        DUE.is("least", book.offer(0, 0, 1, 0), 0);
        DUE.is("greatest", book.offer(MOST, 51, 51, MOST), 1);
        for (int i = 2; i < 9; i++) {
            DUE.is("offer " + i, book.offer(1, 1, 1, MOST), i);
        }
        DUE.is("a tenth", book.offer(1, 1, 1, 1), NONE);
        DUE.is("offers", book.count(9), 9);
        DUE.is("none of them is needed", book.plan(), 0);
        DUE.is("cost of late ones", book.judge(3), MOST);
        DUE.is("set -1", book.judge(-1), NONE);
        DUE.is("set 512", book.judge(512), NONE);
        DUE.is("those that go back at more cost are short", book.judge(4), -2 - 2);
    }

    private static void plans() {
        SupplyBook book = new SupplyBook();
        book.due(10, 100);
        DUE.is("no offers", book.plan(), NONE);
        DUE.is("judge(0)", book.judge(0), -12);
        book.offer(100, 11, 40, 1);
        DUE.is("too late", book.plan(), NONE);
        DUE.is("judge of it", book.judge(1), -12);
        book.offer(100, 10, 42, 9);
        DUE.is("in time, back behind the year", book.plan(), 2);
        DUE.is("its cost", book.judge(2), 9);
        book.offer(100, 10, 41, 5);
        DUE.is("back in week 51 it is short then", book.judge(4), -2 - 51);
        DUE.is("so it is not taken", book.plan(), 2);
        book.offer(50, 9, 50, 5);
        book.offer(50, 1, 51, 4);
        DUE.is("like cost: the fewest", book.plan(), 2);
        book.offer(50, 8, 50, 4);
        DUE.is("less cost", book.plan(), 16 + 32);
        book.offer(50, 7, 50, 4);
        DUE.is("of like ones the least, as bits", book.plan(), 16 + 32);
        book.offer(50, 7, 50, 0);
        DUE.is("least cost", book.plan(), 16 + 128);
        book.now(9 * 7);
        DUE.is("weeks that are not behind bring nothing", book.judge(16 + 128), -12);
        DUE.is("offers of this week neither", book.plan(), 2);
        book.now(10 * 7);
        DUE.is("the week is past", book.plan(), 0);
    }

    private static void likePlans() {
        SupplyBook book = new SupplyBook();
        book.due(10, 100);
        book.offer(50, 5, 51, 2);
        book.offer(50, 5, 51, 2);
        book.offer(100, 5, 51, 5);
        DUE.is("least cost, though by more", book.plan(), 3);
        book.offer(100, 5, 51, 4);
        DUE.is("like cost by fewer", book.plan(), 8);
        DUE.is("cost of the first", book.judge(3), 4);
        book.now(35);
        DUE.is("what came this week counts no more", book.judge(15), -12);
        SupplyBook past = new SupplyBook();
        past.now(35);
        past.offer(10, 5, 3, 1);
        past.offer(10, 4, 3, 2);
        DUE.is("nor goes it back", past.judge(3), 3);
        DUE.is("no plan", book.plan(), NONE);
    }

    private static void backInTurn() {
        SupplyBook book = new SupplyBook();
        book.due(5, 10);
        book.offer(10, 5, 1, 0);
        book.offer(10, 6, 1, 0);
        book.offer(10, 7, 45, 0);
        DUE.is("first alone goes back in week 6", book.judge(1), -2 - 6);
        DUE.is("the second goes back in week 7", book.judge(3), -2 - 7);
        DUE.is("one by the other", book.judge(7), 0);
        DUE.is("the plan", book.plan(), 7);
    }

    public static void main(String[] args) {
        comes();
        came();
        foretold();
        greatSums();
        dues();
        shortWeeks();
        worstOfTaxes();
        offers();
        plans();
        likePlans();
        backInTurn();
        DUE.end();
    }
}
