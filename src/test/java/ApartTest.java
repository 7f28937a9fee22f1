/**
 * What the document keeps apart: what one call does, others do not see unless a sentence says so. Each test is a
 * sentence read to its end, with that beside it which it does not name.
 */
public final class ApartTest {
    private static final int NONE = SupplyBook.NONE;
    private static final int MOST = Due.MOST;
    private static final Due DUE = new Due("ApartTest");

    // ---- books

    /** "All memory is the book's own": two books told by turns answer as each alone. */
    private static void books() {
        SupplyBook one = Due.filled();
        SupplyBook other = Due.filled();
        one.head(0);
        other.head(NONE);
        one.head(1);
        other.head(1);
        DUE.is("head 2 of one", one.under(2, 0), 1);
        DUE.is("head 2 of the other", other.under(2, 0), 0);
        DUE.is("under head 1 of the other", other.under(2, 1), 1);
        one.vote(0, 0, 100, 0, 0);
        other.vote(0, 1, 100, 0, 0);
        Due.feed(one, "o(a=7)");
        Due.feed(other, "n(a=7)");
        DUE.is("a law of one", one.law(0, 3599, 6), 0);
        DUE.is("the tape of the other", other.count(12), 20);
        DUE.is("a law of the other", other.law(0, 3599, 6), 0);
        int c = one.claim(0, 2, 0, 7, NONE, false);
        other.hand(1, 1);
        int d = other.claim(2, 2, 0, 7, NONE, false);
        DUE.is("by the law of one", one.may(c), 0);
        DUE.is("by the law of the other", other.may(d), -15);
        DUE.is("still by that of one", one.pay(c), 0);
        DUE.is("the chest of the other", other.sum(0), MOST);
        DUE.is("left of the other", other.left(0, 0), 100);
        one.now(9);
        DUE.is("now of the other", other.count(0), 0);
        one.due(5, 2 * 1000);
        other.due(6, 1);
        DUE.is("dues of one", one.sum(5), 2000);
        DUE.is("dues of the other", other.sum(5), 1);
    }

    // ---- time

    /** What is told stays told when a day, a week or a year goes by, and nothing is done of itself. */
    private static void timeGoesBy() {
        int[] days = {1, 7, 69, 70, 77, 359, 360, 3599};
        for (int day : days) {
            SupplyBook book = Due.filled();
            Due.law(book, "b9");
            book.due(9, 500);
            book.offer(700, 9, 1, 3);
            book.ask(0, 5, 5, true);
            book.vote(3, 0, 100, 0, 0);
            int c = Due.claim(book, 5);
            book.sign(c, 1);
            book.bid(50, 1);
            book.tender(50, false);
            book.bid(60, 1);
            Due.feed(book, "m1");
            long chest = book.sum(0);
            DUE.yes("now", book.now(day));
            String then = " on day " + day;
            DUE.is("the chest" + then, book.sum(0), chest);
            DUE.is("offers" + then, book.count(9), 1);
            DUE.is("items" + then, book.count(8), 1);
            DUE.is("the cut" + then, book.cut(5), 1);
            DUE.is("bids" + then, book.count(10), 1);
            DUE.is("the tape" + then, book.count(12), 20);
            DUE.is("signs" + then, book.look(c, 6), 2);
            DUE.is("dues" + then, book.sum(5), day < 360 ? 500 : 0);
            DUE.is("owed" + then, book.sum(3), 50);
            DUE.is("not paid back" + then, book.loan(0, 3), NONE);
            DUE.is("the claim may be paid" + then, book.may(c), 0);
            DUE.is("no year is closed" + then, book.count(13), 0);
            DUE.is("judge of the offer" + then, book.judge(1), 3);
        }
    }

    /** A year that is closed, or over, is told of as before: nothing but its close is refused. */
    private static void closedYears() {
        SupplyBook book = Due.filled();
        Due.law(book, "e9;d3");
        int advance = book.advance(0, 100);
        int[] c = {Due.claim(book, 10), Due.claim(book, 20), Due.claim(book, 30)};
        for (int x : c) {
            DUE.is("pay", book.pay(x), advance);
        }
        int other = book.advance(0, 50);
        book.question(c[2]);
        book.draw(0, 0, 1);
        book.now(360);
        DUE.is("close", book.close(0), 0);
        DUE.is("a vote", book.vote(0, 0, 60, 0, 0), 2);
        DUE.is("a ceiling", book.ceiling(2, 0, 5), 3);
        DUE.is("a contract", book.commit(2, 0, 0, 0), 0);
        DUE.yes("test", book.test(c[0], 4));
        DUE.yes("question", book.question(c[1]));
        DUE.yes("an answer to it", book.answer(c[1], true));
        DUE.yes("an answer to an old one", book.answer(c[2], false));
        DUE.yes("find", book.find(c[0], 1));
        DUE.is("falls", book.falls(advance), 30);
        DUE.is("falls, with nothing paid", book.falls(other), 0);
        DUE.yes("cover", book.cover(advance, 2));
        DUE.is("left of the vote", book.left(2, 0), 0);
        DUE.yes("strike", book.strike(2));
        DUE.is("draw", book.draw(0, 0, 60), 1);
        DUE.is("found", book.found(0, 2), 4 + 50);
        Due.feedNumbers(book, c[0], advance, 0, c[1], advance, 0, c[2], advance, 0);
        DUE.is("check", book.check(0, 3), NONE);
        DUE.is("close again", book.close(0), NONE);
    }

    // ---- authorities

    /** A ceiling counts all that its authority paid for its heads, of contracts and by covers too. */
    private static void ceilingsCountAll() {
        SupplyBook book = Due.filled();
        book.head(0);
        Due.law(book, "e1");
        int v = book.vote(0, 0, 1000, 0, 0);
        int ceiling = book.ceiling(v, 1, 100);
        book.commit(v, 60, 0, 0);
        DUE.is("of the contract", book.pay(book.claim(0, 1, 0, 40, 0, false)), v);
        DUE.is("left of the ceiling", book.left(ceiling, 0), 60);
        DUE.is("for a head above", book.pay(book.claim(0, 0, 0, 20, 0, false)), v);
        DUE.is("is none of it", book.left(ceiling, 0), 60);
        DUE.is("of none", book.pay(book.claim(0, 1, 0, 30, NONE, false)), v);
        DUE.is("left of the ceiling", book.left(ceiling, 0), 30);
        DUE.yes("a find", book.find(0, 40));
        DUE.is("gives nothing back", book.left(ceiling, 0), 30);
        DUE.is("nor to the vote", book.left(v, 0), 910);
        DUE.is("another, by it", book.may(book.claim(0, 1, 0, 31, NONE, false)), -14);
        DUE.is("a great ceiling of a small vote", book.ceiling(v, 0, MOST), ceiling + 1);
        DUE.is("its left", book.left(ceiling + 1, 0), MOST - 90);
    }

    /** "Some ceiling of it": whichever of them, in whatever order they were told. */
    private static void someCeiling() {
        int[][] sums = {{9, 20, 30}, {20, 9, 30}, {30, 20, 9}, {20, 30, 40}};
        for (int[] s : sums) {
            SupplyBook book = Due.filled();
            book.head(0);
            int v = book.vote(2, 0, 100, 0, 0);
            for (int i = 0; i < 3; i++) {
                book.ceiling(v, i % 2, s[i]);
            }
            String what = "ceilings of " + s[0] + ", " + s[1] + " and " + s[2];
            boolean fits = s[0] >= 10 && s[1] >= 10 && s[2] >= 10;
            DUE.is(what, book.may(book.claim(0, 1, 0, 10, NONE, false)), fits ? v : -14);
            boolean fitsAbove = s[0] >= 10 && s[2] >= 10;
            DUE.is(what + ", not for head 1", book.may(Due.claim(book, 10)), fitsAbove ? v : -14);
        }
    }

    /** A claim of a contract is barred by words and laws as others are. */
    private static void barsOfContracts() {
        String[] texts = {"n(a=5)", "o(a=6)", "s(a=5)4", "t(a=5)", "o(1/[a-5]=1)"};
        int[] bars = {-15, -15, -16, -17, -18};
        for (int i = 0; i < texts.length; i++) {
            SupplyBook byWords = Due.filled();
            Due.vote(byWords, 0, 0, 100, 0, texts[i]);
            byWords.commit(0, 50, 0, 0);
            DUE.is("by words " + texts[i], byWords.may(byWords.claim(0, 0, 0, 5, 0, false)), bars[i]);
            DUE.is("another sum", byWords.may(byWords.claim(0, 0, 0, 6, 0, false)), 0);
            SupplyBook byLaw = Due.filled();
            Due.law(byLaw, texts[i]);
            byLaw.vote(0, 0, 100, 0, 0);
            byLaw.commit(0, 50, 0, 0);
            DUE.is("by law " + texts[i], byLaw.may(byLaw.claim(0, 0, 0, 5, 0, false)), bars[i]);
            DUE.is("another sum", byLaw.pay(byLaw.claim(0, 0, 0, 6, 0, false)), 0);
        }
    }

    /** The words of each kind bar what it would pay, the laws bar what any kind would. */
    private static void barsOfKinds() {
        int[] kinds = {0, 2, 3};
        for (int kind : kinds) {
            SupplyBook book = Due.filled();
            Due.vote(book, kind, 0, 100, 0, "n(a=5)");
            DUE.is("words of kind " + kind, book.may(Due.claim(book, 5)), -15);
            DUE.is("another sum", book.may(Due.claim(book, 6)), 0);
        }
        for (int kind = 0; kind < 5; kind++) {
            SupplyBook book = Due.filled();
            Due.law(book, "n(a=5);e1");
            int v = kind == 4 ? book.advance(0, 100) : book.vote(kind == 1 ? 0 : kind, 0, 100, 0, 0);
            book.ceiling(v, 0, 50);
            DUE.is("a law, kind " + kind, book.may(Due.claim(book, 5)), -15);
            DUE.is("another sum", book.may(Due.claim(book, 6)), v);
            DUE.is("a ceiling, kind " + kind, book.may(Due.claim(book, 51)), -14);
            DUE.is("too much, kind " + kind, book.may(Due.claim(book, 101)), -13);
        }
    }

    /** An advance that fell bars nothing: only one that is struck or covered does. */
    private static void fallenAdvances() {
        SupplyBook book = Due.filled();
        Due.law(book, "e1;d2");
        int advance = book.advance(0, 100);
        DUE.is("pay", book.pay(Due.claim(book, 10)), advance);
        book.now(3);
        DUE.is("falls", book.falls(advance), 10);
        DUE.is("not struck by that", book.about(advance, 5), NONE);
        DUE.is("pay then", book.pay(Due.claim(book, 20)), advance);
        DUE.is("left", book.left(advance, 0), 70);
        DUE.is("not asked for again", book.falls(advance), NONE);
        DUE.is("surcharged", book.surcharged(0), 10);
    }

    /** Moves change what is left, not the sum; a struck authority strikes no ceiling of it, and stays bound. */
    private static void whatStays() {
        SupplyBook book = Due.filled();
        Due.law(book, "m50;c100");
        book.vote(2, 0, 100, 0, 0);
        book.vote(2, 0, 40, 0, 0);
        int ceiling = book.ceiling(0, 0, 30);
        book.commit(0, 20, 0, 0);
        DUE.yes("move", book.move(0, 1, 50));
        DUE.is("the sum of the first", book.about(0, 2), 100);
        DUE.is("the sum of the second", book.about(1, 2), 40);
        DUE.is("left of the first", book.left(0, 0), 30);
        DUE.is("left of the second", book.left(1, 0), 90);
        book.now(5);
        DUE.yes("strike", book.strike(0));
        DUE.is("the ceiling is not struck", book.about(ceiling, 5), NONE);
        DUE.is("left of the ceiling", book.left(ceiling, 0), 30);
        DUE.is("left of the struck one", book.left(0, 0), 30);
        DUE.yes("strike the ceiling, too", book.strike(ceiling));
        book.now(360);
        DUE.is("close", book.close(0), 1);
        DUE.is("the second is carried", book.about(3, 2), 90);
        DUE.is("it is not struck by that", book.about(1, 5), NONE);
        DUE.is("nor is less left of it", book.left(1, 0), 90);
        DUE.is("no ceilings are carried", book.count(4), 4);
    }

    // ---- claims

    /** k is the kind of the claim, of all that there are. */
    private static void kinds() {
        for (int kind = 0; kind <= 9; kind++) {
            SupplyBook book = Due.filled();
            Due.vote(book, 0, 0, 100, 0, "o(k=" + kind + ")");
            for (int k = 0; k <= 9; k++) {
                DUE.is("kind " + k + " of " + kind, book.may(book.claim(0, 0, k, 1, NONE, false)), k == kind ? 0 : -15);
            }
        }
    }

    // ---- weeks and loans

    /** The chest by the worst knows neither loans nor claims nor what is bound: what it has, spans and dues alone. */
    private static void worstAlone() {
        SupplyBook book = new SupplyBook();
        book.head(NONE);
        book.hand(0, 1);
        Due.law(book, "b9;e9");
        book.bid(500, 9999);
        book.tender(500, false);
        book.vote(3, 0, 400, 0, 0);
        book.advance(0, 300);
        book.commit(0, 400, 0, 9);
        Due.claim(book, 450);
        book.due(10, 500);
        book.offer(5, 12, 51, 7);
        book.ask(0, 100, 1, true);
        DUE.is("500 are owed, bound, asked and due", book.shortWeek(), NONE);
        DUE.is("the plan", book.plan(), 0);
        DUE.is("judge", book.judge(0), 0);
        book.due(11, 1);
        DUE.is("a penny more is due", book.shortWeek(), 11);
        DUE.is("judge", book.judge(0), -2 - 11);
        DUE.is("the offer is late", book.plan(), NONE);
        DUE.is("dues leave what may be paid", book.pay(Due.claim(book, 50)), 1);
        DUE.is("then they are more than there is", book.shortWeek(), 10);
    }

    /** "All loans that are owed are above b thousands": their sums, without interest. */
    private static void owedAlone() {
        SupplyBook book = new SupplyBook();
        Due.law(book, "b1");
        book.bid(600, 9999);
        book.tender(600, false);
        book.now(3599);
        DUE.yes("interest", book.loan(0, 4) > 500);
        DUE.is("owed", book.sum(3), 600);
        book.bid(401, 1);
        DUE.is("a penny too much", book.tender(401, false), NONE);
        DUE.is("enough", book.tender(400, false), 1);
        DUE.is("what came of taxes", book.sum(1), 0);
    }

    // ---- audit

    private static SupplyBook paidBook(int... sums) {
        SupplyBook book = Due.filled();
        book.vote(3, 0, MOST, 0, 0);
        for (int sum : sums) {
            int c = Due.claim(book, sum);
            book.sign(c, 1);
            book.pay(c);
        }
        return book;
    }

    /** A surcharge is of the claim's sum, whatever was found of it, and brings nothing back. */
    private static void surchargesWhole() {
        SupplyBook book = paidBook(101, 50);
        book.draw(0, 0, 1);
        book.test(0, 7);
        book.test(1, 0);
        book.find(0, 31);
        book.find(1, 50);
        for (int c = 0; c < 2; c++) {
            book.question(c);
            book.answer(c, false);
        }
        DUE.is("its hand", book.surcharged(0), 51 + 25);
        DUE.is("who signed", book.surcharged(1), 50 + 25);
        DUE.is("the chest", book.sum(0), MOST - 151);
        DUE.is("all that was paid", book.sum(2), 151);
        DUE.is("left", book.left(0, 0), MOST - 151);
        DUE.is("as known", book.paid(0, 0, 0), 70);
        DUE.yes("finds go on", book.find(0, 70));
        DUE.is("as known", book.paid(0, 0, 0), 0);
    }

    /** An advance that falls surcharges each claim that it paid: well answered, asked, tested and found ones, too. */
    private static void fallsWhole() {
        SupplyBook book = Due.filled();
        Due.law(book, "e9;d1");
        int advance = book.advance(0, 9000);
        for (int c = 0; c < 6; c++) {
            book.pay(Due.claim(book, 1 << c));
        }
        book.question(0);
        book.answer(0, true);
        book.question(1);
        book.draw(0, 0, 1);
        book.test(2, 0);
        book.find(3, 8);
        book.now(2);
        long chest = book.sum(0);
        DUE.is("falls", book.falls(advance), 63);
        DUE.is("surcharged", book.surcharged(0), 63);
        DUE.is("the chest", book.sum(0), chest);
        DUE.is("all that was paid", book.sum(2), 63);
        int[] questions = {2, 1, 0, 0, 0, 0};
        for (int c = 0; c < 6; c++) {
            DUE.is("the question about " + c, book.look(c, 9), questions[c]);
            DUE.is("who paid " + c, book.look(c, 8), advance);
        }
        DUE.yes("the open one is answered", book.answer(1, false));
        DUE.is("not surcharged twice", book.surcharged(0), 63);
        DUE.is("left", book.left(advance, 0), 9000 - 63);
    }

    /** Finds, faults and questions know nothing of one another. */
    private static void auditsApart() {
        SupplyBook book = paidBook(100, 40);
        DUE.yes("find", book.find(0, 60));
        DUE.is("all lie as long as their sums", book.draw(0, 100, 140), 1);
        DUE.is("the second", book.drawn(0, 0), 1);
        DUE.is("place 99", book.draw(0, 99, 100), 1);
        DUE.is("the first", book.drawn(0, 0), 0);
        DUE.is("what is not right, whatever was found", book.found(0, 2), 140);
        DUE.yes("a fault beyond what was not found", book.test(0, 100));
        DUE.yes("a find beyond what is right", book.find(0, 40));
        DUE.is("faults", book.found(0, 0), 100);
        DUE.yes("question", book.question(0));
        DUE.is("it is drawn still", book.drawn(0, 0), 0);
        DUE.is("faults", book.found(0, 0), 100);
        DUE.yes("answer", book.answer(0, true));
        DUE.is("its sum", book.look(0, 3), 100);
        DUE.is("all that was paid", book.sum(2), 140);
        DUE.is("the chest", book.sum(0), MOST - 140);
        DUE.is("those paid", book.count(7), 2);
        DUE.is("left", book.left(0, 0), MOST - 140);
        Due.law(book, "o(q=2)");
        DUE.is("claims of its hand that were paid", book.may(Due.claim(book, 1)), 0);
    }

    public static void main(String[] args) {
        books();
        timeGoesBy();
        closedYears();
        ceilingsCountAll();
        someCeiling();
        barsOfContracts();
        barsOfKinds();
        fallenAdvances();
        whatStays();
        kinds();
        worstAlone();
        owedAlone();
        surchargesWhole();
        fallsWhole();
        auditsApart();
        DUE.end();
    }
}
