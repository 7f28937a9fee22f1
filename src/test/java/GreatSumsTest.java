/**
 * The sums and products that grow largest: beyond what an int holds wherever many pence come together; beyond 64 bits
 * "as the machine does" in conditions of texts, and as they are in the chest by the worst.
 */
public final class GreatSumsTest {
    private static final int NONE = SupplyBook.NONE;
    private static final int MOST = Due.MOST;
    private static final long MUCH = MOST;
    private static final Due DUE = new Due("GreatSumsTest");

    /** A book whose chest has n times as much as can come of one tax in a week, in days 0 to 41. */
    private static SupplyBook rich(int n) {
        SupplyBook book = new SupplyBook();
        book.head(NONE);
        book.hand(0, 3);
        book.hand(0, 5);
        for (int i = 0; i < n; i++) {
            if (i % 6 == 0) {
                book.now(i / 6 * 7);
            }
            DUE.yes("much comes", book.comes(i % 6, MOST));
        }
        return book;
    }

    /** Whether a claim of 7 may be paid by a vote of 100 when a law says that only that may of which this holds. */
    private static void holds(String condition, boolean want) {
        SupplyBook book = Due.filled();
        Due.law(book, "o(" + condition + ")");
        book.vote(0, 0, 100, 0, 0);
        DUE.is(condition, book.may(Due.claim(book, 7)), want ? 0 : -15);
    }

    private static String power(String factor, int n) {
        StringBuilder s = new StringBuilder(factor);
        for (int i = 1; i < n; i++) {
            s.append('*').append(factor);
        }
        return s.toString();
    }

    private static void machineSums() {
        String least = power("8", 21);
        holds(least + "<0", true);
        holds(power("8", 20) + ">0", true);
        holds(power("8", 20) + "*7+" + power("8", 20) + "<0", true);
        holds(least + "-1>0", true);
        holds("[" + least + "-1]+1<0", true);
        holds("[" + least + "-1]*2=0-2", true);
        holds(least + "+" + least + "=0", true);
        holds(least + "*2=0", true);
        holds("[" + least + "]/[0-1]=" + least, true);
        holds("[" + least + "]/[0-1]<0", true);
        holds("[" + least + "]%[0-1]=0", true);
        holds("0-[" + least + "]<0", true);
        holds("[" + least + "]%10=0-8", true);
        holds("[" + least + "]/10<0", true);
        holds("[" + least + "-1]%10=7", true);
        holds(power("4", 32) + "=0", true);
        holds("65536*65536*65536*65536=0", true);
        holds("65536*65536=0", false);
        holds("65536*32768<0", false);
        holds("999999*999999*999999>0", 999999L * 999999 * 999999 > 0);
        holds("999999*999999*999999*999999%1000=" + 999999L * 999999 * 999999 * 999999 % 1000, true);
        holds("[0-7]/2=0-3", true);
        holds("[0-7]%2=0-1", true);
        holds("7/[0-2]=0-3", true);
        holds("7%[0-2]=1", true);
    }

    private static void refusedByWrap() {
        SupplyBook book = Due.filled();
        Due.law(book, "o(1/[" + power("4", 32) + "]=0)");
        book.vote(0, 0, 100, 0, 0);
        DUE.is("what wraps to 0 divides nothing", book.may(Due.claim(book, 7)), -18);
        SupplyBook rest = Due.filled();
        Due.law(rest, "n(1%[65536*65536*65536*65536]=0)");
        rest.vote(0, 0, 100, 0, 0);
        DUE.is("nor is it what is left over", rest.may(Due.claim(rest, 7)), -18);
    }

    /** Much moved to one authority: what is left is more than an int holds, and is told so to a condition. */
    private static void leftOfMuch() {
        SupplyBook book = rich(6);
        Due.law(book, "m100;c100");
        book.vote(2, 0, MOST, 0, 0);
        for (int v = 1; v <= 4; v++) {
            book.vote(0, 0, MOST, 0, 0);
            DUE.yes("all of " + v + " moves", book.move(v, 0, MOST));
            DUE.is("nothing is left of it", book.left(v, 0), 0);
        }
        DUE.is("left", book.left(0, 0), 5 * MUCH);
        DUE.no("no more than all of its sum", book.move(0, 1, MOST + 1));
        DUE.yes("all of its sum", book.move(0, 1, MOST));
        DUE.no("a penny more", book.move(0, 1, 1));
        DUE.is("left", book.left(0, 0), 4 * MUCH);
        Due.law(book, "o(l=999999*4000+4000)");
        int c = Due.claim(book, MOST);
        book.strike(1);
        DUE.is("by what is left", book.may(c), 0);
        for (int i = 0; i < 3; i++) {
            DUE.is("contract " + i, book.commit(0, MOST, 0, 0), i);
        }
        DUE.is("left", book.left(0, 0), MUCH);
        DUE.is("the last", book.commit(0, MOST, 0, 0), 3);
        DUE.is("nothing is left", book.left(0, 0), 0);
        DUE.is("no more", book.commit(0, 1, 0, 0), NONE);
        DUE.is("nothing", book.commit(0, 0, 0, 0), 4);
        book.now(360);
        DUE.is("nothing to carry", book.close(0), 0);
    }

    private static void carryOfMuch() {
        SupplyBook book = rich(1);
        Due.law(book, "m100;c100");
        book.vote(2, 0, MOST, 0, 0);
        book.vote(2, 0, MOST, 0, 0);
        book.move(0, 1, MOST);
        book.now(360);
        DUE.is("one has nothing, one is carried", book.close(0), 1);
        DUE.is("at most", book.about(2, 2), MOST);
        SupplyBook half = rich(1);
        Due.law(half, "m100;c50");
        half.vote(2, 0, MOST, 0, 0);
        half.vote(2, 0, MOST, 0, 0);
        half.vote(2, 0, MOST, 0, 0);
        half.move(0, 1, MOST);
        half.move(2, 1, MOST / 2 + 1);
        half.now(360);
        DUE.is("two", half.close(0), 2);
        DUE.is("half of much, at most", half.about(3, 2), MOST);
        DUE.is("half of an odd sum", half.about(4, 2), MOST / 4 - 1);
        SupplyBook below = rich(1);
        Due.law(below, "m100;c50");
        below.vote(2, 0, MOST, 0, 0);
        below.vote(2, 0, MOST, 0, 0);
        below.move(0, 1, MOST - 1);
        below.now(360);
        DUE.is("one", below.close(0), 1);
        DUE.is("a penny less than the most", below.about(2, 2), MOST - 1);
    }

    private static void muchPaid() {
        SupplyBook book = rich(12);
        Due.law(book, "m100");
        for (int v = 0; v < 5; v++) {
            book.vote(0, 0, MOST, 0, 0);
        }
        for (int v = 1; v < 5; v++) {
            book.move(v, 0, MOST);
        }
        for (int c = 0; c < 5; c++) {
            DUE.is("pay " + c, book.pay(Due.claim(book, MOST)), 0);
        }
        DUE.is("paid", book.paid(0, 0, 3599), 5 * MUCH);
        DUE.is("all that was paid", book.sum(2), 5 * MUCH);
        DUE.is("the chest", book.sum(0), 7 * MUCH);
        DUE.is("all that came", book.sum(1), 12 * MUCH);
        int ceiling = book.ceiling(0, 0, 3);
        DUE.is("far below nothing is left of the ceiling", book.left(ceiling, 0), 3 - 5 * MUCH);
        for (int c = 0; c < 5; c++) {
            book.question(c);
            book.answer(c, false);
        }
        DUE.is("surcharged", book.surcharged(0), 5 * MUCH);
        DUE.is("not right", book.found(0, 2), 5 * MUCH);
        DUE.is("all are drawn", book.draw(0, MOST - 1, MOST), 5);
        for (int c = 0; c < 5; c++) {
            book.test(c, MOST);
            book.find(c, MOST);
        }
        DUE.is("faults", book.found(0, 0), 5 * MUCH);
        DUE.is("faults by steps", book.found(0, 1), 5 * MUCH);
        DUE.is("none of it was right", book.found(0, 2), 5 * MUCH);
        DUE.is("nothing but finds", book.paid(0, 0, 3599), 0);
    }

    /** Claims that lie beyond what an int holds, and steps that end there. */
    private static void drawsOfMuch() {
        SupplyBook book = rich(6);
        for (int v = 0; v < 4; v++) {
            book.vote(0, 0, MOST, 0, 0);
            book.pay(Due.claim(book, MOST - 1));
        }
        book.vote(0, 0, MOST, 0, 0);
        book.pay(Due.claim(book, 5));
        // claim c lies from c times (MOST - 1) on; the last one from 4 MOST - 4 to 4 MOST
        DUE.is("each but the last", book.draw(0, 0, MOST), 5);
        DUE.is("the last, place 4 MOST", book.drawn(0, 4), 4);
        DUE.is("places n MOST less 1", book.draw(0, MOST - 1, MOST), 4);
        DUE.is("the first of them", book.drawn(0, 0), 1);
        DUE.is("the last of them", book.drawn(0, 3), 4);
        DUE.is("place 999999998 is the first one's last", book.draw(0, MOST - 2, MOST), 4);
        DUE.is("the first", book.drawn(0, 0), 0);
        DUE.is("the next is none of the second's", book.drawn(0, 1), 2);
        DUE.is("every second place", book.draw(0, 1, 2), 5);
        book.draw(0, 0, MOST);
        book.test(0, MOST - 1);
        book.test(4, 5);
        DUE.is("faults", book.found(0, 0), MUCH + 4);
        DUE.is("a penny stands for much", book.found(0, 1), MUCH + MUCH);
        book.test(0, MOST - 2);
        book.test(4, 1);
        DUE.is("rounded down", book.found(0, 1), (MUCH - 2) * MUCH / (MUCH - 1) + MUCH / 5);
    }

    private static void muchForetold() {
        SupplyBook book = new SupplyBook();
        book.comes(0, 1);
        book.now(7);
        book.comes(0, 1);
        book.now(14);
        book.comes(0, 1);
        book.now(21);
        book.comes(0, 1);
        book.now(350);
        book.comes(0, MOST);
        for (int week = 0; week < 4; week++) {
            book.now(360 + 7 * week);
            book.comes(0, MOST - week);
        }
        book.now(360 + 28);
        DUE.is("by four weeks", book.foretold(0, 50, 0), MUCH * (4 * MUCH - 6) / 4);
        DUE.is("the least", book.foretold(0, 50, 1), MUCH * (MUCH - 3));
        DUE.is("the greatest", book.foretold(0, 50, 2), MUCH * MUCH);
        book.due(50, MOST);
        DUE.is("not short", book.shortWeek(), NONE);
        DUE.is("plan", book.plan(), 0);
    }

    /**
     * A book on day 367 in which each of n taxes is foretold to bring MUCH times MUCH in weeks `from` to `last`, and
     * nothing in others: of a penny of week 0 became MUCH.
     */
    private static SupplyBook grown(int n, int from, int last) {
        SupplyBook book = new SupplyBook();
        for (int k = 0; k < n; k++) {
            book.comes(k, 1);
        }
        for (int week = from; week <= last; week++) {
            book.now(7 * week);
            for (int k = 0; k < n; k++) {
                book.comes(k, MOST);
            }
        }
        book.now(360);
        for (int k = 0; k < n; k++) {
            book.comes(k, MOST);
        }
        book.now(367);
        return book;
    }

    /** Ten weeks, each MUCH times MUCH: the tenth is beyond 64 bits, and the chest is what it is. */
    private static void chestBeyondAll() {
        SupplyBook book = grown(1, 10, 19);
        long chest = book.sum(0);
        DUE.is("chest", chest, 11 * MUCH + 1);
        DUE.is("each week", book.foretold(0, 19, 1), MUCH * MUCH);
        DUE.is("no other", book.foretold(0, 20, 1) + book.foretold(0, 9, 1), 0);
        long nine = chest + 9 * MUCH * MUCH;
        DUE.yes("a long holds nine", nine > 0);
        DUE.yes("not ten", nine + MUCH * MUCH < 0);
        DUE.is("not short", book.shortWeek(), NONE);
        DUE.is("nothing is needed", book.plan(), 0);
        DUE.is("by no offers", book.judge(0), 0);
        for (int i = 0; i < 9; i++) {
            book.offer(MOST, 19, 1 + i, MOST);
        }
        DUE.is("nor with offers", book.plan(), 0);
        DUE.is("by all of them", book.judge(511), 9 * MUCH);
        DUE.is("by the last", book.judge(256), MUCH);
        for (int i = 0; i < 60; i++) {
            book.due(19 + i / 2, MOST);
        }
        DUE.is("dues behind it are small", book.shortWeek(), NONE);
        DUE.is("the plan is the same", book.plan(), 0);
        DUE.is("by all offers, too", book.judge(511), 9 * MUCH);
        book.now(360 + 7 * 18);
        DUE.is("nothing came in weeks 14 to 17", book.foretold(0, 19, 1), 0);
        DUE.is("the chest alone is for five weeks of dues", book.shortWeek(), 24);
    }

    /** What is short ahead of the weeks in which much is foretold is short, and goes back in them. */
    private static void shortAheadOfMuch() {
        SupplyBook book = grown(2, 5, 30);
        long chest = book.sum(0);
        DUE.is("chest", chest, 54 * MUCH + 2);
        for (int i = 0; i < 54; i++) {
            book.due(4, MOST);
        }
        book.due(3, 2);
        DUE.is("all of the chest", book.shortWeek(), NONE);
        book.due(4, 1);
        DUE.is("a penny more", book.shortWeek(), 4);
        DUE.is("by no offers", book.judge(0), -2 - 4);
        DUE.is("no plan", book.plan(), NONE);
        book.offer(MOST, 5, 1, 0);
        DUE.is("too late", book.judge(1), -2 - 4);
        book.offer(MOST, 4, 1, MOST);
        DUE.is("back in the first great week", book.judge(2), MUCH);
        book.offer(1, 2, 40, MOST - 1);
        DUE.is("back behind the great weeks", book.judge(4), MUCH - 1);
        book.offer(1, 2, 2, 0);
        DUE.is("back ahead of them", book.judge(8), -2 - 4);
        DUE.is("the plan", book.plan(), 4);
        book.due(3, MOST);
        DUE.is("week 4 is still the first", book.shortWeek(), 4);
        for (int i = 0; i < 54; i++) {
            book.due(3, MOST);
        }
        DUE.is("week 3 now", book.shortWeek(), 3);
    }

    /** Six taxes in 51 weeks: some 17 times what 64 bits tell apart. */
    private static void chestOfAllTaxes() {
        SupplyBook book = grown(6, 1, 51);
        DUE.is("each", book.foretold(5, 51, 1), MUCH * MUCH);
        DUE.is("not short", book.shortWeek(), NONE);
        DUE.is("plan", book.plan(), 0);
        DUE.is("judge", book.judge(0), 0);
        DUE.yes("due", book.due(2, MOST));
        DUE.is("an offer", book.offer(MOST, 2, 20, MOST), 0);
        DUE.is("still not short", book.shortWeek(), NONE);
        DUE.is("the plan is empty", book.plan(), 0);
        DUE.is("judge of the offer", book.judge(1), MUCH);
    }

    /** Spans of more than a billion and not of whole billions: dues of as much are met, to the penny. */
    private static void spansToThePenny() {
        SupplyBook book = new SupplyBook();
        book.comes(0, 2);
        book.comes(1, 3);
        book.now(70);
        book.comes(0, 999999999);
        book.comes(1, MOST);
        book.now(77);
        book.comes(0, 5);
        book.now(360);
        book.comes(0, 7);
        book.comes(1, 5);
        book.now(367);
        long chest = book.sum(0);
        DUE.is("chest", chest, 2000000021);
        DUE.is("tax 0", book.foretold(0, 10, 1), 3499999996L);
        DUE.is("tax 1", book.foretold(1, 10, 1), 1666666666);
        DUE.is("a week later", book.foretold(0, 11, 1), 17);
        for (int i = 0; i < 7; i++) {
            DUE.is("not short by " + i, book.shortWeek(), NONE);
            book.due(10, MOST);
        }
        book.due(10, 166666683);
        DUE.is("all of it", book.shortWeek(), NONE);
        DUE.is("by no offers", book.judge(0), 0);
        book.due(11, 17);
        DUE.is("all of the next week", book.shortWeek(), NONE);
        book.due(12, 1);
        DUE.is("nothing is left for a penny", book.shortWeek(), 12);
        book.due(11, 1);
        DUE.is("a penny more than the next week has", book.shortWeek(), 11);
        book.due(10, 1);
        DUE.is("a penny more than week 10 has", book.shortWeek(), 10);
        book.offer(2, 10, 41, 9);
        book.offer(1, 12, 1, 0);
        DUE.is("two pence lack one later", book.judge(1), -2 - 12);
        DUE.is("till the third comes", book.judge(3), -2 - 13);
        book.offer(3, 9, 43, 8);
        DUE.is("three pence", book.plan(), 4);
        DUE.is("what they cost", book.judge(4), 8);
        book.due(9, MOST);
        DUE.is("week 9 has it, week 10 lacks it", book.judge(4), -2 - 10);
    }

    private static void muchDue() {
        SupplyBook book = new SupplyBook();
        for (int i = 0; i < 40; i++) {
            book.due(51, MOST);
        }
        DUE.is("dues", book.sum(5), 40 * MUCH);
        DUE.is("short", book.shortWeek(), 51);
        for (int i = 0; i < 9; i++) {
            book.offer(MOST, 1 + i, 51, MOST);
        }
        DUE.is("offers are too little", book.plan(), NONE);
        DUE.is("judge", book.judge(511), -2 - 51);
        SupplyBook rich = rich(31);
        for (int i = 0; i < 40; i++) {
            rich.due(51, MOST);
        }
        for (int i = 0; i < 9; i++) {
            rich.offer(MOST, 40 + i, 51, MOST);
        }
        DUE.is("all are needed", rich.plan(), 511);
        DUE.is("their cost", rich.judge(511), 9 * MUCH);
        rich.due(51, 1);
        DUE.is("a penny more", rich.plan(), NONE);
    }

    /** A loan that goes back takes its sum and its cost together. */
    private static void muchGoesBack() {
        SupplyBook book = rich(2);
        book.offer(MOST, 10, 1, MOST);
        book.offer(MOST, 10, 2, MOST);
        DUE.is("all of the chest", book.judge(3), 2 * MUCH);
        book.offer(MOST, 10, 3, MOST);
        DUE.is("the third takes more, two weeks later", book.judge(7), -2 - 13);
        book.due(12, 1);
        DUE.is("a penny lacks", book.judge(3), -2 - 12);
    }

    private static void muchInterest() {
        SupplyBook book = rich(30);
        Due.law(book, "b999999");
        book.bid(MOST, 9999);
        DUE.is("above b thousands", book.tender(999999001, false), NONE);
        DUE.is("b thousands", book.tender(999999000, false), 1);
        DUE.is("owed", book.sum(3), 999999000);
        long chest = book.sum(0);
        book.now(3599);
        long days = 3599 - book.loan(0, 2);
        long interest = 999999000L * 9999 * days / 3600000;
        DUE.yes("more than an int holds", interest > Integer.MAX_VALUE);
        DUE.is("interest", book.loan(0, 4), interest);
        DUE.yes("repay", book.repay(0));
        DUE.is("the chest", book.sum(0), chest - 999999000 - interest);
        DUE.is("interest paid", book.sum(4), interest);
        DUE.is("interest stays", book.loan(0, 4), interest);
    }

    private static void greatCuts() {
        SupplyBook book = new SupplyBook();
        book.head(NONE);
        for (int i = 0; i < 14; i++) {
            book.ask(0, MOST, 1000000, true);
        }
        DUE.is("floors of much", book.cut(MOST), NONE);
        DUE.is("more of them", book.more(MOST), NONE);
        book = new SupplyBook();
        book.head(NONE);
        for (int i = 0; i < 13; i++) {
            book.ask(0, MOST, 1000000, false);
        }
        book.ask(0, 3, 1000000, false);
        DUE.is("the small one of like worth", book.cut(MOST), 1 << 13);
        DUE.is("more: the small one and another", book.more(MOST), 3);
        DUE.is("of less", book.more(2), 1);
        DUE.is("both", book.more(3), MOST);
    }

    private static void finds() {
        SupplyBook book = rich(2);
        book.vote(0, 0, MOST, 0, 0);
        book.pay(Due.claim(book, MOST));
        DUE.yes("nearly all", book.find(0, MOST - 1));
        DUE.no("two more", book.find(0, 2));
        DUE.no("far more", book.find(0, MOST));
        DUE.no("the greatest int", book.find(0, Integer.MAX_VALUE));
        DUE.yes("the last penny", book.find(0, 1));
        DUE.no("no more", book.find(0, 1));
        DUE.is("nothing", book.paid(0, 0, 0), 0);
    }

    private static void advances() {
        SupplyBook book = rich(1);
        Due.law(book, "e999999");
        DUE.is("too much at once", book.advance(0, 999999001), NONE);
        DUE.is("nearly all", book.advance(0, 999998999), 0);
        DUE.is("far too much", book.advance(0, MOST), NONE);
        DUE.is("two more", book.advance(0, 2), NONE);
        DUE.is("one more", book.advance(0, 1), 1);
        DUE.is("nothing", book.advance(0, 0), 2);
    }

    private static void moves() {
        SupplyBook book = rich(1);
        Due.law(book, "m99");
        book.vote(0, 0, MOST, 0, 0);
        book.vote(0, 0, 0, 0, 0);
        DUE.no("too much", book.move(0, 1, 990000001));
        DUE.yes("99 hundredths", book.move(0, 1, 990000000));
        DUE.no("no more", book.move(0, 1, 1));
        DUE.no("far more", book.move(0, 1, MOST));
        DUE.is("left", book.left(0, 0), 10000000);
    }

    public static void main(String[] args) {
        machineSums();
        refusedByWrap();
        leftOfMuch();
        carryOfMuch();
        muchPaid();
        drawsOfMuch();
        muchForetold();
        chestBeyondAll();
        shortAheadOfMuch();
        chestOfAllTaxes();
        spansToThePenny();
        muchDue();
        muchGoesBack();
        muchInterest();
        greatCuts();
        finds();
        advances();
        moves();
        DUE.end();
    }
}
