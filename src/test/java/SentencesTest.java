/** Sentences of the terms (parts 1 to 6) that name an edge, each at its edge, where no other test has it. */
public final class SentencesTest {
    private static final int NONE = SupplyBook.NONE;
    private static final int MOST = Due.MOST;
    private static final long NOT_LEFT = -1000000000000L;
    private static final Due DUE = new Due("SentencesTest");

    // ---- part 1

    /** "Weeks of a year are 0 to 51: DAY modulo 360, through 7": each day of a year. */
    private static void weekOfEachDay() {
        for (int year = 0; year < 10; year += 3) {
            SupplyBook book = new SupplyBook();
            for (int day = 0; day < 360; day++) {
                book.now(year * 360 + day);
                DUE.yes("comes", book.comes(year % 6, 1));
            }
            for (int week = 0; week < 52; week++) {
                DUE.is("week " + week + " of year " + year, book.came(year % 6, year, week), week < 51 ? 7 : 3);
            }
        }
    }

    /** "Years (0 to 9) have 360 days: YEAR is DAY / 360". */
    private static void yearOfDays() {
        SupplyBook book = Due.filled();
        int v = 0;
        for (int year = 0; year < 10; year++) {
            int[] days = {year * 360, year * 360 + 1, year * 360 + 358, year * 360 + 359};
            for (int day : days) {
                DUE.yes("now", book.now(day));
                DUE.is("advance on day " + day, book.advance(0, 0), v);
                DUE.is("year of day " + day, book.about(v, 3), year);
                DUE.is("told on", book.about(v, 7), day);
                DUE.is("left in it", book.left(v, year), 0);
                DUE.is("left ahead of it", book.left(v, year - 1), NOT_LEFT);
                DUE.is("left behind it", book.left(v, year + 1), NOT_LEFT);
                v++;
            }
        }
    }

    /** The year of now on its last day and the next one: for votes that pay and move, contracts and dues. */
    private static void lastDayOfYear() {
        for (int year = 0; year < 9; year += 4) {
            SupplyBook book = Due.filled();
            for (int v = 0; v < 4; v++) {
                book.vote(v % 2 * 2, 0, 1000, year + v / 2, 0);
            }
            int standing = book.vote(3, 0, 5000, year, 0);
            book.commit(standing, 2000, year, year + 1);
            book.now(year * 360 + 359);
            DUE.yes("move of this year", book.move(0, 1, 10));
            DUE.no("move of the next", book.move(2, 3, 10));
            DUE.no("from this to the next", book.move(0, 3, 10));
            DUE.is("pay of this year", book.pay(Due.claim(book, 7)), 0);
            DUE.is("of the contract", book.pay(book.claim(0, 0, 0, 1500, 0, false)), standing);
            DUE.is("more than is bound", book.pay(book.claim(0, 0, 0, 501, 0, false)), -13);
            book.due(51, 3);
            DUE.is("dues", book.sum(5), 3);
            DUE.is("left of the vote", book.left(0, year), 983);
            DUE.is("left of the standing one", book.left(standing, year), 3000);
            book.now(year * 360 + 360);
            DUE.no("move of the year before", book.move(0, 1, 10));
            DUE.yes("move of this", book.move(2, 3, 10));
            DUE.is("pay of this", book.pay(Due.claim(book, 7)), 2);
            DUE.is("of the contract, bound anew", book.pay(book.claim(0, 0, 0, 501, 0, false)), standing);
            DUE.is("left of the vote before", book.left(0, year), 983);
            DUE.is("left of this one", book.left(2, year + 1), 983);
            DUE.is("left of the standing one", book.left(standing, year + 1), 3000);
            DUE.is("left of it before", book.left(standing, year), 3000);
            DUE.is("paid", book.paid(year, 0, 3599), 1507);
            DUE.is("paid", book.paid(year + 1, 0, 3599), 508);
            DUE.is("no dues yet", book.sum(5), 0);
            book.due(0, 9);
            DUE.is("dues", book.sum(5), 9);
        }
    }

    /** The week of now on its last day and on the next one's first: for what is short, offers and what is foretold. */
    private static void lastDayOfWeek() {
        for (int week = 5; week < 50; week += 11) {
            SupplyBook book = new SupplyBook();
            book.now(7 * (week - 4));
            book.comes(4, 10);
            book.now(7 * week + 7);
            book.comes(4, 100);
            book.now(360 + 7 * (week - 4));
            book.comes(4, 30);
            book.offer(500, week + 1, 51, 6);
            book.due(week + 1, 331);
            book.now(360 + 7 * week + 6);
            DUE.is("week " + week + " on its last day", book.foretold(4, week, 0), NONE);
            DUE.is("the next week", book.foretold(4, week + 1, 0), 300);
            DUE.is("the least", book.foretold(4, week + 1, 1), 300);
            DUE.is("the chest", book.sum(0), 140);
            DUE.is("140 and 300, less 331", book.shortWeek(), NONE);
            DUE.is("so none is needed", book.plan(), 0);
            book.due(week + 1, 110);
            DUE.is("a penny too much", book.shortWeek(), week + 1);
            DUE.is("by the offer", book.judge(1), 6);
            DUE.is("the plan", book.plan(), 1);
            book.now(360 + 7 * week + 7);
            DUE.is("the day behind it", book.foretold(4, week + 1, 0), NONE);
            DUE.is("not short", book.shortWeek(), NONE);
            DUE.is("no plan is needed", book.plan(), 0);
            book.due(week + 2, 141);
            DUE.is("the offer does not come", book.judge(1), -2 - (week + 2));
            DUE.is("no plan", book.plan(), NONE);
            book.now(360 + 7 * week + 13);
            DUE.is("still not", book.plan(), NONE);
            book.now(360 + 7 * week + 14);
            DUE.is("past", book.plan(), 0);
        }
    }

    /** What laws say of today: on the first and the last day of their force, and the days beside them. */
    private static void lawsOfToday() {
        int[] days = {19, 20, 25, 30, 31};
        for (int day : days) {
            boolean inForce = day >= 20 && day <= 30;
            SupplyBook book = Due.filled();
            Due.law(book, 20, 30, "b1;e1;m100;d2");
            book.vote(0, 0, 100, 0, 0);
            book.vote(0, 0, 100, 0, 0);
            book.bid(5, 5);
            book.now(day);
            DUE.is("advance on day " + day, book.advance(0, 1000), inForce ? 2 : NONE);
            DUE.is("tender on day " + day, book.tender(5, false), inForce ? 1 : NONE);
            DUE.is("move on day " + day, Rich.of(book.move(0, 1, 100)), inForce ? 1 : 0);
            DUE.is("advance of nothing on day " + day, book.advance(0, 0), inForce ? 3 : 2);
            int v = book.count(4) - 1;
            book.now(day + 2);
            DUE.is("two days behind " + day, book.falls(v), NONE);
            book.now(day + 3);
            DUE.is("three days behind " + day, book.falls(v), inForce ? 0 : NONE);
            book.now(day + 30);
            DUE.is("thirty days behind " + day, book.falls(v), NONE);
            book.now(day + 31);
            DUE.is("31 days behind " + day, book.falls(v), inForce ? NONE : 0);
        }
    }

    // ---- part 2

    /** "s(C)R needs a sign of a rank of R or more": each R by each rank. */
    private static void ranks() {
        for (int needed = 1; needed <= 9; needed++) {
            SupplyBook book = new SupplyBook();
            book.head(NONE);
            for (int rank = 1; rank <= 9; rank++) {
                book.hand(0, rank);
            }
            book.hand(0, 9);
            Due.vote(book, 0, 0, 100, 0, "s(a=1)" + needed);
            for (int rank = 1; rank <= 9; rank++) {
                int c = book.claim(9, 0, 0, 1, NONE, false);
                DUE.is("no sign for " + needed, book.may(c), -16);
                book.sign(c, rank - 1);
                DUE.is("rank " + rank + " for " + needed, book.may(c), rank >= needed ? 0 : -16);
            }
        }
    }

    /** The numbers of m, c, b, e, d at their least and greatest, on the first and the last day of a law. */
    private static void numbersOnDays() {
        String[] letters = {"m", "c", "b", "e", "d"};
        int[] usual = {10, 0, 0, 0, 30};
        int[] most = {100, 100, 999999, 999999, 999999};
        int[][] days = {{0, 0}, {0, 3599}, {3599, 3599}, {100, 200}, {359, 360}};
        for (int i = 0; i < 5; i++) {
            for (int[] d : days) {
                SupplyBook book = new SupplyBook();
                Due.law(book, d[0], d[1], letters[i] + most[i]);
                Due.law(book, d[0], d[1], "q(a=1)");
                int[] asked = {d[0] - 1, d[0], d[1], d[1] + 1};
                for (int day : asked) {
                    boolean isDay = day >= 0 && day <= 3599;
                    boolean inForce = d[0] <= day && day <= d[1];
                    DUE.is("number " + i + " on " + day, book.number(i, day),
                            !isDay ? NONE : inForce ? most[i] : usual[i]);
                    DUE.is("counts on " + day, book.counts(0, day), !isDay ? NONE : inForce ? 1 : 0);
                }
                Due.law(book, d[0], d[0], letters[i] + "0");
                DUE.is("the highest law, 0", book.number(i, d[0]), 0);
                DUE.is("on its last day", book.number(i, d[1]), d[0] == d[1] ? 0 : most[i]);
            }
        }
    }

    /** A law bars on the days of its force alone, both too. */
    private static void forceOfRules() {
        SupplyBook book = Due.filled();
        book.vote(0, 0, 100, 0, 0);
        Due.law(book, 10, 12, "n(a=5)");
        int c = Due.claim(book, 5);
        int[] days = {9, 10, 11, 12, 13};
        for (int day : days) {
            book.now(day);
            DUE.is("may on day " + day, book.may(c), day < 10 || day > 12 ? 0 : -15);
        }
    }

    /** As deep as can be (eight open in one another), a condition is reckoned as any other. */
    private static void deepConditions() {
        String[] hold = {"((((((((a=7))))))))", "([[[[[[[a]]]]]]]=7)", "(!!!!!!a=7)", "(!!!!!!!a=8)", "(!(!(!(!u0))))",
            "(((!(!(!a=8)))))", "(((([[[[a+1]-1]*1]/1]=[7]))))", "(!(!([[[a]]]=7)))", "(!!!!!!(1=1&u0))",
            "(1=2|(1=2|(1=2|(1=2|(1=2|(1=2|(1=2|(a=7))))))))", "(7=[[[[[[[a]]]]]]])",
            "(1=1&(1=1&(1=1&(1=1&(1=1&(1=1&(1=1&!u9)))))))"};
        for (String text : hold) {
            SupplyBook book = Due.filled();
            Due.vote(book, 0, 0, 100, 0, "o" + text);
            Due.vote(book, 0, 0, 200, 0, "n" + text);
            DUE.is("only of " + text, book.may(Due.claim(book, 7)), 0);
            book.strike(0);
            DUE.is("not of " + text, book.may(Due.claim(book, 7)), -15);
            Due.law(book, "s" + text + "9");
            Due.vote(book, 0, 0, 300, 0, "t" + text);
            book.strike(1);
            DUE.is("a tender is asked for ahead of a sign: " + text, book.may(Due.claim(book, 7)), -17);
            DUE.is("then the sign: " + text, book.may(book.claim(0, 0, 0, 7, NONE, true)), -16);
        }
    }

    private static void strikesOfClauses() {
        SupplyBook book = new SupplyBook();
        Due.law(book, "x1.0;m5;x0.1;x0.0");
        DUE.is("of itself and above it: none", book.counts(0, 0), 4);
        Due.law(book, "x0.1;x0.1;x0.4;x0.15;x1.1;x2.0");
        DUE.is("one is struck, once", book.counts(0, 0), 3);
        DUE.is("law 1", book.counts(1, 0), 6);
        Due.law(book, 5, 5, "x1.0");
        DUE.is("the other one strikes it still", book.counts(0, 5), 3);
        Due.law(book, 5, 5, "x1.1");
        DUE.is("now none strikes it", book.counts(0, 5), 4);
        DUE.is("on day 4", book.counts(0, 4), 3);
        DUE.is("on day 6", book.counts(0, 6), 3);
        Due.law(book, 5, 5, "x3.0;x2.0");
        DUE.is("who strikes the strikers is struck", book.counts(0, 5), 3);
    }

    // ---- part 3

    private static void ceilings() {
        SupplyBook book = Due.filled();
        book.head(0);
        book.head(1);
        book.head(0);
        int v = book.vote(3, 0, 100, 1, 0);
        int low = book.ceiling(v, 2, 10);
        int high = book.ceiling(v, 1, 15);
        int own = book.ceiling(v, 0, 50);
        book.now(360);
        int c = book.claim(0, 2, 0, 10, NONE, false);
        DUE.is("as much as all of them have", book.pay(c), v);
        DUE.is("the lowest is full", book.may(book.claim(0, 2, 0, 1, NONE, false)), -14);
        DUE.is("the one above it has 5", book.may(book.claim(0, 1, 0, 6, NONE, false)), -14);
        DUE.is("5 are enough", book.pay(book.claim(0, 1, 0, 5, NONE, false)), v);
        DUE.is("the own head has 35", book.may(book.claim(0, 3, 0, 36, NONE, false)), -14);
        DUE.is("35 are enough", book.may(book.claim(0, 3, 0, 35, NONE, false)), v);
        int[] left = {0, 0, 35};
        for (int i = 0; i < 3; i++) {
            DUE.is("left of ceiling " + i, book.left(low + i, 1), left[i]);
            DUE.is("in the next year", book.left(low + i, 2), new int[] {10, 15, 50}[i]);
            DUE.is("ahead of its year", book.left(low + i, 0), NOT_LEFT);
        }
        book.strike(low);
        book.strike(high);
        DUE.is("struck ones bar nothing", book.may(book.claim(0, 2, 0, 35, NONE, false)), v);
        DUE.is("the last one does", book.may(book.claim(0, 2, 0, 36, NONE, false)), -14);
        DUE.is("left of a struck one", book.left(low, 1), 0);
        book.strike(own);
        DUE.is("none is left", book.may(book.claim(0, 2, 0, 36, NONE, false)), v);
        book.now(720);
        DUE.is("the next year", book.may(book.claim(0, 2, 0, 100, NONE, false)), v);
    }

    /** A ceiling counts what its authority paid, by whom it counts as paid: a cover takes it from the advance. */
    private static void ceilingsOfCovered() {
        SupplyBook book = Due.filled();
        Due.law(book, "e1");
        int advance = book.advance(0, 100);
        int ofAdvance = book.ceiling(advance, 0, 60);
        DUE.is("pay", book.pay(Due.claim(book, 40)), advance);
        DUE.is("left of the ceiling", book.left(ofAdvance, 0), 20);
        DUE.is("a ceiling of an advance bars", book.may(Due.claim(book, 21)), -14);
        int vote = book.vote(0, 0, 40, 0, 0);
        int ofVote = book.ceiling(vote, 0, 30);
        DUE.yes("cover, beyond a ceiling", book.cover(advance, vote));
        DUE.is("left of the advance's ceiling", book.left(ofAdvance, 0), 60);
        DUE.is("left of the vote's ceiling", book.left(ofVote, 0), -10);
        DUE.is("left of the vote", book.left(vote, 0), 0);
        DUE.is("left of the advance", book.left(advance, 0), 0);
    }

    /** To cover: what is left of the vote in its year is asked, though now is later; what is bound is not left. */
    private static void coversOfOldYears() {
        SupplyBook book = Due.filled();
        Due.law(book, "e1");
        int advance = book.advance(0, 100);
        book.pay(Due.claim(book, 50));
        int vote = book.vote(0, 0, 100, 0, 0);
        int contract = book.commit(vote, 51, 0, 0);
        book.now(400);
        DUE.no("49 are left", book.cover(advance, vote));
        int other = book.vote(0, 0, 50, 0, 0);
        DUE.no("a vote of this year", book.cover(advance, book.vote(0, 0, 50, 1, 0)));
        DUE.yes("50 are left", book.cover(advance, other));
        DUE.is("left of it", book.left(other, 0), 0);
        DUE.is("left of the first", book.left(vote, 0), 49);
        DUE.is("contract", contract, 0);
        DUE.is("of no vote twice", book.about(advance, 6), other);
        DUE.is("told", book.about(other, 7), 400);
    }

    /** What is paid of a contract needs no more to be left than what is bound by it. */
    private static void boundAndLeft() {
        SupplyBook book = Due.filled();
        int v = book.vote(2, 0, 100, 0, 0);
        book.commit(v, 100, 0, 0);
        DUE.is("nothing is left", book.left(v, 0), 0);
        DUE.is("others", book.may(Due.claim(book, 1)), -13);
        DUE.is("of the contract, all", book.may(book.claim(0, 0, 0, 100, 0, false)), v);
        DUE.is("of the contract, more", book.may(book.claim(0, 0, 0, 101, 0, false)), -13);
        DUE.is("a part", book.pay(book.claim(0, 0, 0, 30, 0, false)), v);
        DUE.is("what is bound yet", book.may(book.claim(0, 0, 0, 70, 0, false)), v);
        DUE.is("a penny more", book.may(book.claim(0, 0, 0, 71, 0, false)), -13);
        DUE.is("left", book.left(v, 0), 0);
        DUE.is("nothing may be bound", book.commit(v, 1, 0, 0), NONE);
        DUE.is("but nothing", book.commit(v, 0, 0, 0), 1);
        DUE.is("a claim of that", book.may(book.claim(0, 0, 0, 1, 1, false)), -13);
        book.strike(v);
        DUE.is("struck", book.may(book.claim(0, 0, 0, 1, 0, false)), -12);
        DUE.is("no more contracts", book.commit(v, 0, 0, 0), NONE);
        DUE.is("bound all the same", book.left(v, 0), 0);
    }

    private static void movesRounded() {
        int[][] rows = {{99, 1, 0}, {100, 1, 1}, {199, 1, 1}, {200, 1, 2}, {1, 99, 0}, {1, 100, 1}, {101, 99, 99},
            {50, 0, 0}, {MOST, 0, 0}, {MOST, 100, MOST}, {999999999, 50, 499999999}, {0, 100, 0}};
        for (int[] r : rows) {
            SupplyBook book = Due.filled();
            Due.law(book, "m" + r[1]);
            book.vote(0, 0, r[0], 0, 0);
            book.vote(2, 0, 0, 0, 0);
            String what = r[1] + " hundredths of " + r[0];
            DUE.no(what + " and a penny", book.move(0, 1, r[2] + 1));
            DUE.yes(what, book.move(0, 1, r[2]));
            DUE.no(what + ", then a penny", book.move(0, 1, 1));
            DUE.yes(what + ", then nothing", book.move(0, 1, 0));
            DUE.is(what + ": left", book.left(0, 0), r[0] - r[2]);
            DUE.is(what + ": moved", book.left(1, 0), r[2]);
        }
    }

    /** All moved from one counts, whatever was moved to it; m is that of today. */
    private static void movesOfToday() {
        SupplyBook book = Due.filled();
        Due.law(book, 0, 5, "m50");
        book.vote(0, 0, 100, 0, 0);
        book.vote(0, 0, 100, 0, 0);
        DUE.yes("half", book.move(0, 1, 50));
        DUE.yes("half back", book.move(1, 0, 50));
        DUE.no("no more, though it came back", book.move(0, 1, 1));
        book.now(6);
        DUE.no("nothing: it is above 10 hundredths", book.move(0, 1, 0));
        Due.law(book, 6, 6, "m51");
        DUE.yes("one more", book.move(0, 1, 1));
        DUE.no("two more", book.move(0, 1, 1));
        book.now(7);
        DUE.no("that law is over", book.move(1, 0, 0));
    }

    // ---- part 4

    /** Of each authority the first bar: one of which all hold, and which are taken away one by one. */
    private static void firstBars() {
        SupplyBook book = Due.filled();
        book.head(0);
        book.head(0);
        Due.vote(book, 3, 1, 9, 1, "n(a=10)");
        book.ceiling(0, 1, 5);
        book.strike(0);
        int beside = book.claim(0, 2, 0, 10, NONE, false);
        int c = book.claim(0, 1, 0, 10, NONE, false);
        DUE.is("another year, struck and too little", book.may(c), -11);
        book.now(360);
        DUE.is("another head, struck and too little", book.may(beside), -11);
        DUE.is("struck and too little", book.may(c), -12);
        int v = Due.vote(book, 0, 1, 9, 1, "n(a=10)");
        int ceiling = book.ceiling(v, 1, 5);
        DUE.is("too little is left, beside a ceiling and words", book.may(c), -13);
        int w = Due.vote(book, 0, 1, 10, 1, "n(a=10);s(a=10)9");
        int other = book.ceiling(w, 1, 9);
        DUE.is("a ceiling ahead of words", book.may(c), -14);
        book.strike(v);
        book.strike(other);
        DUE.is("words in their order", book.may(c), -15);
        DUE.is("ceilings were told", ceiling + other, v + 1 + w + 1);
        book.strike(w);
        int x = Due.vote(book, 0, 1, 10, 1, "s(a=10)9;n(a=10)");
        DUE.is("words in that order, too", book.may(c), -16);
        book.strike(x);
        Due.vote(book, 0, 1, 10, 1, "t(a=10);n(1/0=1)");
        DUE.is("the first that bars", book.may(c), -17);
        DUE.is("the refused one behind it", book.may(book.claim(0, 1, 0, 9, NONE, false)), -18);
    }

    /** The greatest of all bars, not the last one or that of the last authority asked. */
    private static void greatestBars() {
        SupplyBook book = Due.filled();
        Due.vote(book, 0, 0, 100, 0, "n(1/0=1)");
        book.vote(2, 0, 1, 0, 0);
        book.vote(3, 0, 1, 0, 0);
        DUE.is("the first one's is the greatest", book.may(Due.claim(book, 5)), -18);
        book.strike(0);
        DUE.is("13 of the others", book.may(Due.claim(book, 5)), -13);
    }

    /** Only ceilings are there: no authority is asked. */
    private static void ceilingsAlone() {
        SupplyBook book = Due.filled();
        book.vote(0, 0, 100, 1, 0);
        book.ceiling(0, 0, 100);
        DUE.is("a vote of another year", book.may(Due.claim(book, 5)), -11);
        DUE.is("no vote is a ceiling's", book.commit(1, 1, 1, 1), NONE);
    }

    /** q: how many claims of its hand were paid in this year, by whatever paid them. */
    private static void paidOfHand() {
        SupplyBook book = Due.filled();
        Due.law(book, "e1");
        int v = book.vote(3, 0, 100, 0, 0);
        book.commit(v, 10, 0, 9);
        DUE.is("of a contract", book.pay(book.claim(0, 0, 0, 5, 0, false)), v);
        DUE.is("of the vote", book.pay(Due.claim(book, 5)), v);
        int advance = book.advance(0, 500);
        DUE.is("of an advance", book.pay(Due.claim(book, 200)), advance);
        book.pay(book.claim(1, 0, 0, 1, NONE, false));
        Due.claim(book, 1);
        Due.law(book, "o(q=3&y=0|q=0&y=5|q=1&y=359)");
        DUE.is("three, this hand", book.may(Due.claim(book, 1)), v);
        DUE.is("one, the other", book.may(book.claim(1, 0, 0, 1, NONE, false)), -15);
        book.now(365);
        DUE.is("none in the next year", book.pay(Due.claim(book, 1)), v);
        DUE.is("now it is one", book.may(Due.claim(book, 1)), -15);
        book.now(719);
        DUE.is("one on the last day", book.may(Due.claim(book, 1)), v);
    }

    /** The chest has so much: all, or a penny less. */
    private static void chestEdges() {
        SupplyBook book = new SupplyBook();
        book.head(NONE);
        book.hand(0, 1);
        book.vote(0, 0, 100, 0, 0);
        book.comes(0, 49);
        int c = Due.claim(book, 50);
        DUE.is("a penny lacks", book.pay(c), -9);
        DUE.is("not paid", book.count(7), 0);
        DUE.is("left", book.left(0, 0), 100);
        DUE.is("the chest", book.sum(0), 49);
        book.comes(0, 1);
        DUE.is("now it has so much", book.pay(c), 0);
        DUE.is("all of it", book.sum(0), 0);
        DUE.is("of an empty chest", book.pay(Due.claim(book, 1)), -9);
    }

    // ---- part 5

    /** "Of the four weeks ahead of that of NOW (those from 0 on)": a week of growth of its own at each place. */
    private static void fourWeeks() {
        for (int now = 0; now <= 9; now++) {
            SupplyBook book = new SupplyBook();
            for (int week = 0; week <= 9; week++) {
                book.now(7 * week);
                book.comes(3, 1);
            }
            book.now(140);
            book.comes(3, 10000);
            long grown = 0;
            long past = 0;
            long least = 0;
            long greatest = 0;
            for (int week = 0; week <= now; week++) {
                book.now(360 + 7 * week);
                book.comes(3, week * week + 1);
                if (week < now && week >= now - 4) {
                    least = past == 0 ? week * week + 1 : least;
                    greatest = week * week + 1;
                    grown += week * week + 1;
                    past++;
                }
            }
            DUE.is("in week " + now, book.foretold(3, 20, 0), past == 0 ? 10000 : 10000 * grown / past);
            DUE.is("least in week " + now, book.foretold(3, 20, 1), past == 0 ? 10000 : 10000 * least);
            DUE.is("greatest in week " + now, book.foretold(3, 20, 2), past == 0 ? 10000 : 10000 * greatest);
            DUE.is("a week of nothing", book.foretold(3, 21, 0), 0);
        }
    }

    /** Nothing came this year in weeks in which something did: foretold is 0. */
    private static void nothingGrows() {
        SupplyBook book = new SupplyBook();
        book.comes(0, 7);
        book.now(70);
        book.comes(0, 900);
        book.now(360 + 7);
        for (int what = 0; what < 3; what++) {
            DUE.is("by 0 of 7, " + what, book.foretold(0, 10, what), 0);
        }
        book.now(360 + 35);
        for (int what = 0; what < 3; what++) {
            DUE.is("week 0 is four weeks ahead no more, " + what, book.foretold(0, 10, what), 900);
        }
        book.now(360 + 69);
        DUE.is("the last day ahead of it", book.foretold(0, 10, 0), 900);
        book.now(360 + 70);
        DUE.is("its first day", book.foretold(0, 10, 0), NONE);
    }

    private static void duesOfYears() {
        SupplyBook book = new SupplyBook();
        book.due(10, 5);
        DUE.is("short", book.shortWeek(), 10);
        book.now(69);
        DUE.is("the day ahead of that week", book.shortWeek(), 10);
        book.now(70);
        DUE.is("the week itself is not asked", book.shortWeek(), NONE);
        book.now(360);
        DUE.is("dues of another year", book.shortWeek(), NONE);
        book.due(0, 1);
        DUE.is("the week of now", book.shortWeek(), NONE);
        book.due(1, 1);
        DUE.is("the next", book.shortWeek(), 1);
        book.comes(2, 1);
        DUE.is("the chest has it", book.shortWeek(), NONE);
        DUE.is("dues", book.sum(5), 2);
    }

    /** An offer at each week: from the one behind that of now on, to that in which it goes back. */
    private static void offersByWeeks() {
        SupplyBook book = new SupplyBook();
        book.now(70);
        book.due(11, 3);
        book.due(13, 4);
        book.offer(7, 10, 9, 0);
        book.offer(7, 11, 3, 0);
        book.offer(7, 11, 40, 0);
        book.offer(7, 12, 39, 0);
        book.offer(7, 11, 41, 0);
        DUE.is("none", book.judge(0), -2 - 11);
        DUE.is("of this week", book.judge(1), -2 - 11);
        DUE.is("back in week 14", book.judge(2), -2 - 14);
        DUE.is("back in week 51", book.judge(4), -2 - 51);
        DUE.is("too late", book.judge(8), -2 - 11);
        DUE.is("back behind the year", book.judge(16), 0);
        DUE.is("two, the second back in week 51", book.judge(10), -2 - 51);
        DUE.is("the plan", book.plan(), 16);
    }

    /** Like costs: the fewest; as many: the least as bits. Greater cost never, by however few. */
    private static void likePlans() {
        SupplyBook book = new SupplyBook();
        book.due(5, 10);
        book.offer(5, 1, 51, 0);
        book.offer(5, 1, 51, 0);
        book.offer(5, 1, 51, 0);
        DUE.is("the least, as bits", book.plan(), 3);
        book.offer(10, 1, 51, 1);
        DUE.is("two at no cost", book.plan(), 3);
        book.offer(10, 1, 51, 0);
        DUE.is("one at no cost", book.plan(), 16);
        book.offer(10, 1, 51, 0);
        DUE.is("the lower of two", book.plan(), 16);
        book.due(6, 10);
        DUE.is("two of the six", book.plan(), 48);
        book.comes(0, 20);
        DUE.is("none", book.plan(), 0);
    }

    private static void tendersByRates() {
        SupplyBook book = new SupplyBook();
        Due.law(book, "b1");
        int[][] bids = {{10, 9999}, {20, 0}, {30, 5}, {40, 5}, {50, 0}};
        for (int[] b : bids) {
            book.bid(b[0], b[1]);
        }
        DUE.is("tender", book.tender(101, false), 4);
        int[][] loans = {{20, 0}, {50, 0}, {30, 5}, {1, 5}};
        for (int i = 0; i < 4; i++) {
            DUE.is("sum of loan " + i, book.loan(i, 0), loans[i][0]);
            DUE.is("rate of loan " + i, book.loan(i, 1), loans[i][1]);
        }
        DUE.is("the chest", book.sum(0), 101);
        book.bid(10, 9999);
        book.bid(20, 0);
        DUE.is("exactly the first one's", book.tender(20, true), 1);
        DUE.is("its rate", book.loan(4, 1), 0);
        book.bid(10, 9999);
        book.bid(20, 0);
        DUE.is("a penny of the second", book.tender(21, true), 2);
        DUE.is("the first at the highest rate", book.loan(5, 1), 9999);
        DUE.is("the second", book.loan(6, 0), 1);
        book.bid(857, 1);
        book.bid(1, 1);
        DUE.is("above 1000: 142 are owed, 858 and a penny more asked", book.sum(3), 142);
        book.bid(1, 9);
        DUE.is("a penny too much", book.tender(859, false), NONE);
        DUE.is("not a penny less", book.tender(858, false), 2);
        DUE.is("owed", book.sum(3), 1000);
    }

    /** Interest: each day of a loan of which a penny comes every third day. */
    private static void interestByDays() {
        SupplyBook book = new SupplyBook();
        Due.law(book, "b999");
        book.now(11);
        book.bid(120000, 10);
        book.tender(120000, false);
        for (int days = 0; days < 100; days++) {
            book.now(11 + days);
            DUE.is("interest of " + days + " days", book.loan(0, 4), days / 3);
        }
        book.comes(0, 32);
        DUE.no("33 are asked", book.repay(0));
        book.comes(0, 1);
        DUE.yes("33 are there", book.repay(0));
        DUE.is("the chest", book.sum(0), 0);
        book.now(3599);
        DUE.is("till it was paid back", book.loan(0, 4), 33);
    }

    // ---- part 6

    /** A claim is drawn if some place lies in it: its first, its last, and none beside them. */
    private static void drawnPlaces() {
        SupplyBook book = Due.filled();
        book.vote(0, 0, MOST, 0, 0);
        int[] sums = {3, 1, 2, 4};
        for (int sum : sums) {
            book.pay(Due.claim(book, sum));
        }
        int[] first = {0, 3, 4, 6};
        int[] behind = {3, 4, 6, 10};
        for (int step = 1; step <= 12; step++) {
            for (int start = 0; start < step; start++) {
                int bits = 0;
                for (int place = start; place < 10; place += step) {
                    for (int c = 0; c < 4; c++) {
                        bits |= place >= first[c] && place < behind[c] ? 1 << c : 0;
                    }
                }
                String what = "draw(0, " + start + ", " + step + ")";
                DUE.is(what, book.draw(0, start, step), Integer.bitCount(bits));
                int i = 0;
                for (int c = 0; c < 4; c++) {
                    boolean isDrawn = (bits >> c & 1) == 1;
                    DUE.is(what + " tests " + c, Rich.of(book.test(c, 0)), isDrawn ? 1 : 0);
                    if (isDrawn) {
                        DUE.is(what + " at " + i, book.drawn(0, i), c);
                        i++;
                    }
                }
                DUE.is(what + " behind", book.drawn(0, i), NONE);
            }
        }
    }

    /** A fault times the step through its claim's sum, or itself if that sum is the step or more. */
    private static void faultsBySteps() {
        int[][] rows = {{99, 50, 100, 50}, {100, 50, 100, 50}, {101, 50, 100, 50}, {99, 98, 100, 98},
            {99, 99, 100, 100}, {7, 3, 10, 4}, {7, 0, 10, 0}, {1, 1, 1, 1}, {1, 1, 2, 2}, {3, 2, 1000, 666}};
        for (int[] r : rows) {
            SupplyBook book = Due.filled();
            book.vote(0, 0, MOST, 0, 0);
            book.pay(Due.claim(book, r[0]));
            book.draw(0, 0, r[2]);
            DUE.is("not tested", book.found(0, 1), 0);
            DUE.is("not tested: none of it is right", book.found(0, 2), r[0]);
            DUE.yes("test", book.test(0, r[1]));
            DUE.is("fault " + r[1] + " of " + r[0] + " by " + r[2], book.found(0, 1), r[3]);
            DUE.is("faults", book.found(0, 0), r[1]);
            DUE.is("what is not right", book.found(0, 2), r[1]);
            DUE.is("another year", book.found(1, 2), 0);
        }
    }

    /** A later draw of another year leaves that of this one. */
    private static void drawsOfYears() {
        SupplyBook book = Due.filled();
        book.vote(3, 0, MOST, 0, 0);
        book.pay(Due.claim(book, 10));
        book.now(360);
        book.pay(Due.claim(book, 20));
        book.draw(0, 0, 50);
        book.draw(1, 0, 200);
        book.test(0, 10);
        book.test(1, 10);
        DUE.is("year 0 by its step", book.found(0, 1), 50);
        DUE.is("year 1 by its step", book.found(1, 1), 100);
        DUE.is("year 1 draws none", book.draw(1, 20, 21), 0);
        DUE.is("nothing of it", book.found(1, 1), 0);
        DUE.is("year 0 stays", book.found(0, 1), 50);
        DUE.is("a refused draw leaves it", book.draw(0, 3, 3), NONE);
        DUE.is("year 0 stays", book.drawn(0, 0), 0);
    }

    /** Surcharges parted among one to five, each sum from 1 to 11. */
    private static void parts() {
        for (int signers = 0; signers < 5; signers++) {
            for (int sum = 1; sum <= 11; sum++) {
                SupplyBook book = new SupplyBook();
                book.head(NONE);
                for (int h = 0; h < 7; h++) {
                    book.hand(0, 1);
                }
                book.comes(0, 100);
                book.vote(0, 0, 100, 0, 0);
                int c = book.claim(3, 0, 0, sum, NONE, false);
                int[] order = {6, 0, 4, 1};
                boolean[] isCharged = {false, false, false, true, false, false, false};
                for (int i = 0; i < signers; i++) {
                    book.sign(c, order[i]);
                    isCharged[order[i]] = true;
                }
                book.pay(c);
                book.question(c);
                book.answer(c, false);
                int left = sum % (signers + 1);
                for (int h = 0; h < 7; h++) {
                    int due = isCharged[h] ? sum / (signers + 1) + (left > 0 ? 1 : 0) : 0;
                    left -= isCharged[h] ? 1 : 0;
                    DUE.is(sum + " by " + signers + " signers, hand " + h, book.surcharged(h), due);
                }
            }
        }
    }

    /** An advance falls on the day that is more than d days behind that on which it was told, and not ahead of it. */
    private static void fallsByDays() {
        int[] days = {0, 1, 30, 359, 3498, 3499};
        for (int d : days) {
            SupplyBook book = Due.filled();
            if (d != 30) {
                Due.law(book, "d" + d);
            }
            Due.law(book, "e1");
            book.now(100);
            int early = book.advance(0, 10);
            book.pay(Due.claim(book, 10));
            int late = book.advance(0, 10);
            int vote = book.vote(0, 0, 10, 0, 0);
            book.now(100 + d);
            DUE.is("on day " + d, book.falls(early), NONE);
            DUE.yes("covered in time", book.cover(late, vote));
            boolean isMore = book.now(100 + d + 1);
            DUE.is("a day later", book.falls(early), isMore ? 10 : NONE);
            DUE.is("the covered one", book.falls(late), NONE);
            DUE.is("once", book.falls(early), NONE);
            DUE.is("surcharged", book.surcharged(0), isMore ? 10 : 0);
        }
        SupplyBook never = Due.filled();
        Due.law(never, "d999999;e1");
        never.advance(0, 10);
        never.now(3599);
        DUE.is("d999999", never.falls(0), NONE);
    }

    /** "If it was not covered on a day ahead of that one": covered on each day from that on which it was told on. */
    private static void coversByDays() {
        for (int late = 0; late < 12; late++) {
            SupplyBook book = Due.filled();
            Due.law(book, "d3;e1");
            book.now(10);
            int advance = book.advance(0, 10);
            book.pay(Due.claim(book, 10));
            int vote = book.vote(0, 0, 10, 0, 0);
            book.now(10 + late);
            DUE.yes("cover, " + late + " days later", book.cover(advance, vote));
            DUE.is("that day", book.falls(advance), late < 4 ? NONE : 10);
            book.now(400);
            DUE.is("covered " + late + " days later, asked in the next year", book.falls(advance), NONE);
            DUE.is("surcharged", book.surcharged(0), late < 4 ? 0 : 10);
            SupplyBook other = Due.filled();
            Due.law(other, "d3;e1");
            other.now(10);
            other.advance(0, 10);
            other.pay(Due.claim(other, 10));
            other.vote(0, 0, 10, 0, 0);
            other.now(10 + late);
            other.cover(advance, vote);
            other.now(300);
            DUE.is("covered " + late + " days later, asked for much later", other.falls(advance), late < 4 ? NONE : 10);
        }
    }

    /** A struck advance falls, too; one that is asked for too early is asked for again. */
    private static void fallsOfStruck() {
        SupplyBook book = Due.filled();
        Due.law(book, "d1;e1");
        book.advance(0, 10);
        book.pay(Due.claim(book, 10));
        book.strike(0);
        book.now(1);
        DUE.is("too early", book.falls(0), NONE);
        book.now(2);
        DUE.is("now", book.falls(0), 10);
        book.vote(0, 0, 10, 0, 0);
        DUE.yes("covered when it fell", book.cover(0, 1));
        DUE.is("not again", book.falls(0), NONE);
        DUE.is("surcharged once", book.surcharged(0), 10);
    }

    /** Finds are known from the day on which they are told; claims are paid from theirs on. */
    private static void knownByDays() {
        SupplyBook book = Due.filled();
        book.vote(3, 0, 1000, 0, 0);
        book.now(10);
        book.pay(Due.claim(book, 100));
        book.find(0, 1);
        book.now(20);
        book.find(0, 2);
        book.find(0, 4);
        book.now(370);
        book.find(0, 8);
        book.pay(Due.claim(book, 500));
        int[][] rows = {{0, 9, 0}, {0, 10, 99}, {0, 19, 99}, {0, 20, 93}, {0, 369, 93}, {0, 370, 85}, {0, 3599, 85},
            {1, 369, 0}, {1, 370, 500}, {2, 3599, 0}};
        for (int[] r : rows) {
            DUE.is("paid in " + r[0] + " as known on " + r[1], book.paid(r[0], 0, r[1]), r[2]);
        }
    }

    /** c is that of the last day of the year that is closed. */
    private static void carriedByLastDay() {
        int[][] rows = {{0, 358, 0}, {0, 359, 50}, {359, 359, 50}, {360, 3599, 0}, {358, 360, 50}};
        for (int[] r : rows) {
            SupplyBook book = Due.filled();
            Due.law(book, r[0], r[1], "c50");
            book.vote(2, 0, 101, 0, 0);
            book.now(3599);
            DUE.is("close with c50 from " + r[0] + " to " + r[1], book.close(0), r[2] > 0 ? 1 : 0);
            DUE.is("what is carried", book.about(1, 2), r[2] > 0 ? 50 : NONE);
            DUE.is("its year", book.about(1, 3), r[2] > 0 ? 1 : NONE);
        }
        int[][] sums = {{0, 100, 0}, {1, 100, 1}, {1, 99, 0}, {2, 50, 1}, {99, 1, 0}, {100, 1, 1}, {199, 1, 1},
            {7, 0, 0}};
        for (int[] s : sums) {
            SupplyBook book = Due.filled();
            Due.law(book, "c" + s[1]);
            book.vote(2, 0, s[0], 0, 0);
            book.now(360);
            DUE.is(s[1] + " hundredths of " + s[0], book.close(0), s[2] > 0 ? 1 : 0);
            DUE.is("carried", book.about(1, 2), s[2] > 0 ? s[2] : NONE);
        }
    }

    /** Each year once, in order: the first day on which each may be closed. */
    private static void closedInOrder() {
        SupplyBook book = new SupplyBook();
        for (int year = 0; year < 10; year++) {
            book.now(year * 360 + 359);
            DUE.is("its last day", book.close(year), NONE);
            if (year < 9) {
                book.now(year * 360 + 360);
                DUE.is("one behind it", book.close(year + 1), NONE);
                DUE.is("the next day", book.close(year), 0);
                DUE.is("again", book.close(year), NONE);
            }
            DUE.is("the next to be closed", book.count(13), Math.min(9, year + 1));
        }
    }

    /** Carries that a close made are carried on, with their words; struck ones are not. */
    private static void carriedOn() {
        SupplyBook book = Due.filled();
        Due.law(book, "c100");
        book.head(0);
        book.head(1);
        Due.vote(book, 2, 1, 64, 0, "n(a=1)");
        book.now(360);
        book.close(0);
        DUE.is("pay of the carry", book.pay(book.claim(0, 2, 0, 4, NONE, false)), 1);
        DUE.is("by its words", book.may(book.claim(0, 1, 0, 1, NONE, false)), -15);
        DUE.is("by its head", book.may(Due.claim(book, 4)), -11);
        book.now(720);
        DUE.is("close", book.close(1), 1);
        DUE.is("its head", book.about(2, 1), 1);
        DUE.is("what is left", book.about(2, 2), 60);
        DUE.is("its clauses", book.about(2, 4), 1);
        book.strike(2);
        book.now(1080);
        DUE.is("struck", book.close(2), 0);
        DUE.is("none is there", book.about(3, 0), NONE);
    }

    public static void main(String[] args) {
        weekOfEachDay();
        yearOfDays();
        lastDayOfYear();
        lastDayOfWeek();
        lawsOfToday();
        ranks();
        numbersOnDays();
        forceOfRules();
        deepConditions();
        strikesOfClauses();
        ceilings();
        ceilingsOfCovered();
        coversOfOldYears();
        boundAndLeft();
        movesRounded();
        movesOfToday();
        firstBars();
        greatestBars();
        ceilingsAlone();
        paidOfHand();
        chestEdges();
        fourWeeks();
        nothingGrows();
        duesOfYears();
        offersByWeeks();
        likePlans();
        tendersByRates();
        interestByDays();
        drawnPlaces();
        faultsBySteps();
        drawsOfYears();
        parts();
        fallsByDays();
        coversByDays();
        fallsOfStruck();
        knownByDays();
        carriedByLastDay();
        closedInOrder();
        carriedOn();
        DUE.end();
    }
}
