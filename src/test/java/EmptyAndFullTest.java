/**
 * The empty object: what each call answers on it, whatever it is asked; and the full one: the last place of each kind
 * that is free, the call behind it, and that all that is there is still right when all places are taken.
 */
public final class EmptyAndFullTest {
    private static final int NONE = SupplyBook.NONE;
    private static final int MOST = Due.MOST;
    private static final long NOT_LEFT = -1000000000000L;
    private static final int[] NUMBERS = {Integer.MIN_VALUE, -2, -1, 0, 1, 2, 5, 9, 39, 79, 299, 3599, MOST,
        Integer.MAX_VALUE};
    private static final Due DUE = new Due("EmptyAndFullTest");

    // ---- the empty object

    private static void empty() {
        for (int x : NUMBERS) {
            for (int y : NUMBERS) {
                emptyPairs(x, y);
            }
            emptySingles(x);
        }
        SupplyBook book = new SupplyBook();
        DUE.is("shortWeek()", book.shortWeek(), NONE);
        DUE.is("plan()", book.plan(), 0);
        DUE.is("judge(0)", book.judge(0), 0);
        DUE.is("judge(1)", book.judge(1), NONE);
        DUE.is("check(0, 0)", book.check(0, 0), NONE);
        DUE.is("check(9, 0)", book.check(9, 0), NONE);
        DUE.is("check(0, 1)", book.check(0, 1), -2);
        DUE.is("cut(0)", book.cut(0), 0);
        DUE.is("cut(all)", book.cut(MOST), 0);
        DUE.is("more(0)", book.more(0), 0);
        DUE.is("more(all)", book.more(MOST), 0);
        DUE.is("tender(1)", book.tender(1, false), 0);
        DUE.is("tender(all)", book.tender(MOST, true), 0);
        DUE.yes("now(0)", book.now(0));
        emptyRows(book);
        nothingIsThere("empty", book);
        DUE.yes("now(3599)", book.now(3599));
        emptyRows(book);
        for (int year = 0; year < 9; year++) {
            DUE.is("close(" + year + ")", book.close(year), 0);
        }
        DUE.is("close(9)", book.close(9), NONE);
    }

    private static void emptyPairs(int x, int y) {
        SupplyBook book = new SupplyBook();
        String with = "(" + x + ", " + y + ")";
        DUE.is("under" + with, book.under(x, y), NONE);
        DUE.is("hand" + with, book.hand(x, y), NONE);
        DUE.is("law" + with, book.law(0, x, y), NONE);
        DUE.is("counts" + with, book.counts(x, y), NONE);
        DUE.is("vote" + with, book.vote(0, x, 1, 0, y), NONE);
        DUE.is("vote of head" + with, book.vote(0, x, y, 0, 0), NONE);
        DUE.is("ceiling" + with, book.ceiling(x, y, 1), NONE);
        DUE.is("advance" + with, book.advance(x, y), NONE);
        DUE.no("cover" + with, book.cover(x, y));
        DUE.no("move" + with, book.move(x, y, 0));
        DUE.is("commit" + with, book.commit(x, y, 0, 0), NONE);
        DUE.is("left" + with, book.left(x, y), NOT_LEFT);
        DUE.is("claim" + with, book.claim(x, y, 0, 1, NONE, false), NONE);
        DUE.no("sign" + with, book.sign(x, y));
        DUE.is("ask" + with, book.ask(x, y, 1, true), NONE);
        DUE.is("loan" + with, book.loan(x, y), NONE);
        DUE.is("drawn" + with, book.drawn(x, y), NONE);
        DUE.no("test" + with, book.test(x, y));
        DUE.no("find" + with, book.find(x, y));
        DUE.is("paid" + with, book.paid(0, x, y), NONE);
        DUE.is("look" + with, book.look(x, y), NONE);
        DUE.is("about" + with, book.about(x, y), NONE);
        nothingIsThere("behind " + with, book);
    }

    private static void emptySingles(int x) {
        SupplyBook book = new SupplyBook();
        String with = "(" + x + ")";
        DUE.is("head" + with, book.head(x), x == NONE ? 0 : NONE);
        book = new SupplyBook();
        DUE.no("strike" + with, book.strike(x));
        DUE.is("may" + with, book.may(x), NONE);
        DUE.is("pay" + with, book.pay(x), NONE);
        DUE.no("repay" + with, book.repay(x));
        DUE.no("question" + with, book.question(x));
        DUE.no("answer" + with, book.answer(x, false));
        DUE.is("falls" + with, book.falls(x), NONE);
        DUE.is("surcharged" + with, book.surcharged(x), NONE);
        DUE.is("close" + with, book.close(x), NONE);
        nothingIsThere("behind " + with, book);
    }

    private static void emptyRows(SupplyBook book) {
        int[] usual = {10, 0, 0, 0, 30};
        for (int letter = 0; letter < 5; letter++) {
            DUE.is("number " + letter, book.number(letter, 3599 * (letter & 1)), usual[letter]);
        }
        for (int year = 0; year < 10; year++) {
            for (int what = 0; what < 3; what++) {
                DUE.is("found(" + year + ", " + what + ")", book.found(year, what), 0);
            }
            DUE.is("draw(" + year + ")", book.draw(year, MOST - 1, MOST), 0);
            DUE.is("drawn(" + year + ")", book.drawn(year, 0), NONE);
            for (int k = 0; k < 6; k++) {
                DUE.is("came(" + k + ", " + year + ")", book.came(k, year, 51), 0);
            }
        }
        int week = book.count(0) % 360 / 7;
        for (int k = 0; k < 6; k++) {
            for (int what = 0; what < 3; what++) {
                DUE.is("foretold(" + k + ", now, " + what + ")", book.foretold(k, week, what), NONE);
                if (week < 51) {
                    DUE.is("foretold(" + k + ", next, " + what + ")", book.foretold(k, week + 1, what), 0);
                    DUE.is("foretold(" + k + ", last, " + what + ")", book.foretold(k, 51, what), 0);
                }
            }
        }
    }

    private static void nothingIsThere(String when, SupplyBook book) {
        for (int what = 0; what <= 13; what++) {
            DUE.is(when + ", count(" + what + ")", book.count(what), 0);
        }
        for (int what = 0; what <= 5; what++) {
            DUE.is(when + ", sum(" + what + ")", book.sum(what), 0);
        }
    }

    // ---- the full object

    private static void fullPeople() {
        SupplyBook book = new SupplyBook();
        for (int h = 0; h < 40; h++) {
            DUE.is("head " + h, book.head(h == 0 || h == 20 ? NONE : h - 1), h);
        }
        DUE.is("a 41st of the last", book.head(39), NONE);
        DUE.is("a 41st of none", book.head(NONE), NONE);
        for (int h = 0; h < 16; h++) {
            DUE.is("hand " + h, book.hand(39 - h, 1 + h % 9), h);
        }
        DUE.is("a 17th", book.hand(0, 1), NONE);
        for (int a = 0; a < 40; a++) {
            DUE.is("under(" + a + ", 0)", book.under(a, 0), a < 20 ? 1 : 0);
            DUE.is("under(" + a + ", 20)", book.under(a, 20), a < 20 ? 0 : 1);
            DUE.is("under(39, " + a + ")", book.under(39, a), a < 20 ? 0 : 1);
        }
        DUE.is("under(40, 0)", book.under(40, 0), NONE);
        DUE.is("under(0, 40)", book.under(0, 40), NONE);
        DUE.is("heads", book.count(1), 40);
        DUE.is("hands", book.count(2), 16);
        int c = book.claim(15, 39, 9, 7, NONE, false);
        for (int h = 0; h < 16; h++) {
            DUE.is("sign by " + h, Rich.of(book.sign(c, h)), h < 15 ? 1 : 0);
        }
        DUE.is("all others signed", book.look(c, 6), (1 << 15) - 1);
        book.vote(0, 20, 7, 0, 0);
        book.comes(0, 7);
        DUE.is("pay", book.pay(c), 0);
        book.question(c);
        book.answer(c, false);
        for (int h = 0; h < 16; h++) {
            DUE.is("a penny each, to the lowest: " + h, book.surcharged(h), h < 7 ? 1 : 0);
        }
    }

    /** Twenty laws of sixteen clauses and 200 bytes, each of which bars nothing but the last clause of the last. */
    private static void fullLaws() {
        SupplyBook book = Due.filled();
        for (int i = 0; i < 20; i++) {
            StringBuilder text = new StringBuilder();
            for (int j = 0; j < 15; j++) {
                text.append(j == 0 ? "n(k=88);" : "n(k=8);");
            }
            text.append(i == 19 ? "n(a=" : "o(a>");
            while (text.length() < 198) {
                text.append("1*");
            }
            text.append(i == 19 ? "5" : "4").append(')');
            DUE.is("bytes", text.length(), 200);
            DUE.is("law " + i, Due.law(book, text.toString()), i);
            DUE.is("clauses of " + i, book.counts(i, 0), 16);
        }
        Due.feed(book, "m1");
        DUE.is("a 21st", book.law(0, 3599, 2), NONE);
        DUE.is("the tape stays", book.count(12), 20);
        DUE.is("laws", book.count(3), 20);
        DUE.is("counts(20)", book.counts(20, 0), NONE);
        book.vote(0, 0, 100, 0, 0);
        DUE.is("by the last clause of all", book.pay(Due.claim(book, 5)), -15);
        DUE.is("by that of each law ahead", book.pay(Due.claim(book, 4)), -15);
        DUE.is("by none", book.pay(Due.claim(book, 7)), 0);
    }

    private static void fullStrikes() {
        SupplyBook book = new SupplyBook();
        String sixteen = "m1;m2;m3;m4;m5;m6;m7;m8;m9;m10;m11;m12;m13;m14;m15;m16";
        for (int i = 0; i < 19; i++) {
            DUE.is("law " + i, Due.law(book, sixteen), i);
        }
        DUE.is("number", book.number(0, 0), 16);
        DUE.is("the last law", Due.law(book, "x18.15;x18.0;x18.14;x19.0;x19.15;x0.15;x18.15"), 19);
        DUE.is("the highest that may be struck", book.counts(18, 0), 13);
        DUE.is("the lowest", book.counts(0, 0), 15);
        DUE.is("itself", book.counts(19, 0), 7);
        DUE.is("number", book.number(0, 0), 14);
    }

    private static void fullAuthorities() {
        for (int way = 0; way < 4; way++) {
            SupplyBook book = Due.filled();
            Due.law(book, "e1;c100");
            book.vote(2, 0, 5, 0, 0);
            while (book.count(4) < 79) {
                book.vote(0, 0, 1, 0, 0);
            }
            if (way == 3) {
                book.now(360);
            }
            int last = way == 0 ? book.vote(3, 0, 9, 0, 0) : way == 1 ? book.ceiling(0, 0, 9)
                    : way == 2 ? book.advance(0, 9) : book.close(0) + 78;
            DUE.is("the 80th, by way " + way, last, 79);
            DUE.is("authorities", book.count(4), 80);
            DUE.is("its kind", book.about(79, 0), new int[] {3, 1, 4, 2}[way]);
            DUE.is("its sum", book.about(79, 2), way == 3 ? 5 : 9);
            DUE.is("its left", book.left(79, way == 3 ? 1 : 0), way == 3 ? 5 : 9);
            DUE.is("an 81st vote", book.vote(0, 0, 1, 0, 0), NONE);
            DUE.is("an 81st ceiling", book.ceiling(0, 0, 1), NONE);
            DUE.is("an 81st advance", book.advance(0, 1), NONE);
            DUE.is("about an 81st", book.about(80, 0), NONE);
            DUE.is("left of an 81st", book.left(80, 0), NOT_LEFT);
            DUE.no("strike an 81st", book.strike(80));
            DUE.yes("strike the 80th", book.strike(79));
        }
    }

    private static void theLastPays() {
        SupplyBook book = Due.filled();
        while (book.count(4) < 79) {
            book.vote(0, 0, 1, 0, 0);
        }
        book.vote(0, 0, 2, 0, 0);
        int c = Due.claim(book, 2);
        DUE.is("the 80th lets it", book.may(c), 79);
        for (int i = 0; i < 20; i++) {
            DUE.is("contract " + i, book.commit(i < 19 ? i : 79, 1, 0, 0), i);
        }
        DUE.is("a 21st contract", book.commit(30, 1, 0, 0), NONE);
        DUE.is("contracts", book.count(5), 20);
        DUE.is("less is left of the 80th", book.pay(c), -13);
        DUE.is("of the 20th contract", book.pay(book.claim(0, 0, 0, 1, 19, false)), 79);
        DUE.is("a claim of a 21st contract", book.claim(0, 0, 0, 1, 20, false), NONE);
        DUE.is("of no more", book.pay(book.claim(0, 0, 0, 1, 19, false)), -13);
        DUE.is("left", book.left(79, 0), 1);
    }

    /** 300 claims, of which 100 are paid: with what made them some 450 calls. */
    private static void fullClaims() {
        SupplyBook book = Due.filled();
        book.vote(3, 0, MOST, 0, 0);
        for (int c = 0; c < 300; c++) {
            DUE.is("claim " + c, book.claim(c & 1, 0, c % 10, 1 + c, NONE, c % 3 == 0), c);
        }
        DUE.is("a 301st", book.claim(0, 0, 0, 1, NONE, false), NONE);
        DUE.is("claims", book.count(6), 300);
        long sum = 0;
        for (int c = 299; c >= 200; c--) {
            DUE.is("pay " + c, book.pay(c), 0);
            sum += 1 + c;
        }
        DUE.is("those paid", book.count(7), 100);
        DUE.is("all that was paid", book.sum(2), sum);
        DUE.is("left", book.left(0, 0), MOST - sum);
        DUE.is("the last one's sum", book.look(299, 3), 300);
        DUE.is("a 301st one's", book.look(300, 3), NONE);
        DUE.is("draw all", book.draw(0, 0, 1), 100);
        DUE.is("the first drawn", book.drawn(0, 0), 200);
        DUE.is("the last drawn", book.drawn(0, 99), 299);
        DUE.is("behind it", book.drawn(0, 100), NONE);
        DUE.yes("sign the 300th", !book.sign(299, 0));
        DUE.is("paid", book.paid(0, 0, 0), sum);
    }

    private static void fullFinds() {
        SupplyBook book = Due.filled();
        book.vote(3, 0, MOST, 0, 0);
        book.pay(Due.claim(book, 99));
        book.pay(Due.claim(book, 99));
        for (int i = 0; i < 99; i++) {
            DUE.yes("find " + i, book.find(0, 1));
        }
        DUE.no("no more of that claim", book.find(0, 1));
        DUE.yes("the 100th", book.find(1, 98));
        DUE.no("the 101st", book.find(1, 1));
        DUE.is("paid", book.paid(0, 0, 0), 1);
    }

    private static void fullRest() {
        SupplyBook book = Due.filled();
        for (int i = 0; i < 14; i++) {
            DUE.is("item " + i, book.ask(0, 1, 1 << i, i == 13), i);
        }
        DUE.is("a 15th item", book.ask(0, 1, 1, false), NONE);
        DUE.is("items", book.count(8), 14);
        DUE.is("cut", book.cut(3), 7 << 11);
        DUE.is("cut of all", book.cut(14), (1 << 14) - 1);
        DUE.is("cut of the floor", book.cut(1), 1 << 13);
        DUE.is("cut of less", book.cut(0), NONE);
        for (int i = 0; i < 9; i++) {
            DUE.is("offer " + i, book.offer(i, 51 - i, 51, 1 << i), i);
        }
        DUE.is("a tenth offer", book.offer(0, 0, 1, 0), NONE);
        DUE.is("offers", book.count(9), 9);
        DUE.is("judge of all", book.judge(511), 511);
        DUE.is("judge of more", book.judge(512), NONE);
        Due.law(book, "b1");
        for (int t = 0; t < 3; t++) {
            for (int i = 0; i < 12; i++) {
                DUE.is("bid " + i, book.bid(1 + i, i), i);
            }
            DUE.is("a 13th bid", book.bid(1, 1), NONE);
            DUE.is("bids", book.count(10), 12);
            if (t < 2) {
                DUE.is("twelve loans", book.tender(78, false), 12);
            }
        }
        DUE.is("seven more are too many", book.tender(22, false), NONE);
        DUE.is("six more", book.tender(21, false), 6);
        DUE.is("loans", book.count(11), 30);
        DUE.is("the 30th", book.loan(29, 0), 6);
        DUE.is("its rate", book.loan(29, 1), 5);
        DUE.is("a 31st", book.loan(30, 0), NONE);
        DUE.yes("repay the 30th", book.repay(29));
        DUE.no("repay a 31st", book.repay(30));
        book.bid(1, 1);
        DUE.is("what was paid back keeps its place", book.tender(1, false), NONE);
        DUE.is("that bid stays", book.count(10), 1);
    }

    private static void fullTape() {
        SupplyBook book = new SupplyBook();
        for (int i = 1; i <= 20; i++) {
            DUE.is("feed " + i, book.feed(0, 0, 0, 0, 0), 20 * i);
        }
        DUE.is("a 21st", book.feed(0, 0, 0, 0, 0), NONE);
        DUE.is("check of 34", book.check(0, 34), -2);
        DUE.is("check of 33", book.check(0, 33), 0);
        DUE.is("empty then", book.count(12), 0);
        DUE.is("feed again", book.feed(0, 0, 0, 0, 0), 20);
    }

    /** A check of 33 claims: all that a full tape can hold; the last number of all stands near its end. */
    private static void fullCheck() {
        SupplyBook book = Due.filled();
        book.vote(3, 0, MOST, 0, 0);
        for (int c = 0; c < 34; c++) {
            Due.claim(book, 1);
        }
        for (int c = 0; c < 33; c++) {
            book.pay(32 - c);
        }
        int[] numbers = new int[100];
        for (int i = 0; i < 33; i++) {
            numbers[3 * i] = 32 - i;
        }
        Due.feedNumbers(book, numbers);
        DUE.is("the tape is full", book.count(12), 400);
        DUE.is("check of 33", book.check(0, 33), NONE);
        numbers[98] = 1;
        Due.feedNumbers(book, numbers);
        DUE.is("the last number", book.check(0, 33), 98);
        numbers[98] = 0;
        book.pay(33);
        Due.feedNumbers(book, numbers);
        DUE.is("one is lacking", book.check(0, 33), 99);
    }

    /** The 512th call is answered as the first. */
    private static void lastCall() {
        SupplyBook book = new SupplyBook();
        for (int i = 0; i < 510; i++) {
            book.comes(i % 6, 2);
        }
        DUE.is("call 511", book.sum(1), 1020);
        DUE.is("call 512", book.sum(0), 1020);
        book = new SupplyBook();
        for (int i = 0; i < 511; i++) {
            book.due(51, MOST);
        }
        DUE.is("call 512, dues", book.sum(5), 511L * MOST);
        book = new SupplyBook();
        book.due(51, 1);
        for (int i = 0; i < 510; i++) {
            DUE.is("short, call " + i, book.shortWeek(), 51);
        }
        DUE.is("call 512, no plan", book.plan(), NONE);
    }

    public static void main(String[] args) {
        empty();
        fullPeople();
        fullLaws();
        fullStrikes();
        fullAuthorities();
        theLastPays();
        fullClaims();
        fullFinds();
        fullRest();
        fullTape();
        fullCheck();
        lastCall();
        DUE.end();
    }
}
