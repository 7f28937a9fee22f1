/**
 * What each call changes on a book in which there is some of everything, of all that can be asked, and that it changes
 * nothing else: each row worked out by hand.
 */
public final class ChangesTest {
    private static final Due DUE = new Due("ChangesTest");

    private static void changes(String what, Rich.Call call, String... rows) {
        Rich.changes(DUE, what, book -> 0, call, rows);
    }

    private static long of(boolean b) {
        return Rich.of(b);
    }

    private static void time() {
        changes("now, the same day", b -> of(b.now(380)));
        String[] nextWeek = {"loan(1, 4): 0 > 1", "loan(2, 4): 0 > 1", "foretold(0, 3, 0): 200004 > -1",
            "foretold(0, 3, 1): 150002 > -1", "foretold(0, 3, 2): 250007 > -1", "foretold(1, 3, 0): 12000 > -1",
            "foretold(1, 3, 1): 12000 > -1", "foretold(1, 3, 2): 12000 > -1", "foretold(0, 4, 0): 200006 > 133339",
            "foretold(0, 4, 1): 150004 > 5", "foretold(1, 4, 0): 16000 > 5333", "foretold(1, 4, 1): 16000 > 0",
            "foretold(0, 5, 0): 200008 > 133340", "foretold(0, 5, 1): 150005 > 5", "foretold(1, 5, 0): 20000 > 6666",
            "foretold(1, 5, 1): 20000 > 0", "foretold(0, 51, 0): 5999 > 4000", "foretold(0, 51, 1): 4499 > 0",
            "count(0): 380 > 381"};
        changes("now, the next week", b -> of(b.now(381)), nextWeek);
        nextWeek[nextWeek.length - 1] = "count(0): 380 > 384";
        changes("now, the last day of that week", b -> of(b.now(384)), nextWeek);
        changes("now, the next year", b -> of(b.now(720)), "count(0): 380 > 720", "sum(5): 1605017 > 0",
                "may(3): 0 > 7", "may(4): 0 > -11", "may(9): 4 > -11", "may(11): 0 > 7", "loan(1, 4): 0 > 26",
                "loan(2, 4): 0 > 26", "foretold(0, 2, 0): -1 > 5", "foretold(0, 2, 1): -1 > 5",
                "foretold(0, 2, 2): -1 > 5", "foretold(1, 2, 0): -1 > 0", "foretold(1, 2, 1): -1 > 0",
                "foretold(1, 2, 2): -1 > 0", "foretold(0, 3, 0): 200004 > 0", "foretold(0, 3, 1): 150002 > 0",
                "foretold(0, 3, 2): 250007 > 0", "foretold(1, 3, 0): 12000 > 0", "foretold(1, 3, 1): 12000 > 0",
                "foretold(1, 3, 2): 12000 > 0", "foretold(0, 4, 0): 200006 > 0", "foretold(0, 4, 1): 150004 > 0",
                "foretold(0, 4, 2): 250010 > 0", "foretold(1, 4, 0): 16000 > 0", "foretold(1, 4, 1): 16000 > 0",
                "foretold(1, 4, 2): 16000 > 0", "foretold(0, 5, 0): 200008 > 0", "foretold(0, 5, 1): 150005 > 0",
                "foretold(0, 5, 2): 250012 > 0", "foretold(1, 5, 0): 20000 > 0", "foretold(1, 5, 1): 20000 > 0",
                "foretold(1, 5, 2): 20000 > 0", "foretold(0, 51, 0): 5999 > 0", "foretold(0, 51, 1): 4499 > 0",
                "foretold(0, 51, 2): 7500 > 0", "judge(0): -11 > 0", "judge(1): -40 > 50", "judge(4): -11 > 1",
                "judge(5): -40 > 51", "plan(): 2 > 0", "shortWeek(): 9 > -1");
    }

    private static void peopleAndTexts() {
        changes("head", b -> b.head(0), "count(1): 4 > 5");
        changes("hand", b -> b.hand(0, 1), "count(2): 4 > 5");
        changes("feed", b -> b.feed(0, 0, 0, 0, 0), "count(12): 60 > 80");
        changes("law", b -> b.law(0, 3599, 7), "count(3): 5 > 6", "count(12): 60 > 0", "counts(5, 379): -1 > 1",
                "counts(5, 380): -1 > 1");
        changes("law with a fault", b -> b.law(0, 3599, 8), "count(12): 60 > 0");
        changes("words with a fault", b -> b.vote(0, 0, 1, 1, 8), "count(12): 60 > 0");
        changes("check", b -> b.check(1, 1), "count(12): 60 > 0");
        Rich.Call empty = b -> b.check(1, 0);
        Rich.changes(DUE, "law of a number", empty, b -> Due.law(b, 380, 380, "m25"), "count(3): 5 > 6",
                "counts(5, 379): -1 > 0", "counts(5, 380): -1 > 1", "number(0, 380): 50 > 25");
        Rich.changes(DUE, "law that strikes c50", empty, b -> Due.law(b, 380, 380, "x0.3"), "count(3): 5 > 6",
                "counts(0, 380): 5 > 4", "counts(5, 379): -1 > 0", "counts(5, 380): -1 > 1", "number(1, 380): 50 > 0");
        Rich.changes(DUE, "law that bars", empty, b -> Due.law(b, 380, 380, "n(a=70)"), "count(3): 5 > 6",
                "may(3): 0 > -15", "counts(5, 379): -1 > 0", "counts(5, 380): -1 > 1");
    }

    private static void authorities() {
        changes("vote", b -> b.vote(0, 0, 100000, 1, 7), "count(4): 12 > 13", "count(12): 60 > 0",
                "about(12, 0): -1 > 0", "about(12, 1): -1 > 0", "about(12, 2): -1 > 100000", "about(12, 3): -1 > 1",
                "about(12, 4): -1 > 1", "about(12, 7): -1 > 380", "left(12, 1): -1000000000000 > 100000");
        changes("ceiling", b -> b.ceiling(Rich.VOTE, 1, 1), "count(4): 12 > 13", "may(4): 0 > -14",
                "about(12, 0): -1 > 1", "about(12, 1): -1 > 1", "about(12, 2): -1 > 1", "about(12, 3): -1 > 1",
                "about(12, 4): -1 > 0", "about(12, 6): -1 > 0", "about(12, 7): -1 > 380",
                "left(12, 1): -1000000000000 > -580");
        changes("advance", b -> b.advance(0, 1000), "count(4): 12 > 13", "about(12, 0): -1 > 4",
                "about(12, 1): -1 > 0", "about(12, 2): -1 > 1000", "about(12, 3): -1 > 1", "about(12, 4): -1 > 0",
                "about(12, 7): -1 > 380", "left(12, 1): -1000000000000 > 1000");
        changes("cover", b -> of(b.cover(Rich.FALLEN, Rich.VOTE)), "look(10, 8): 8 > 0", "left(0, 1): 8896 > 8856",
                "about(8, 6): -1 > 0", "left(8, 1): 960 > 0");
        changes("strike", b -> of(b.strike(Rich.VOTE)), "may(3): 0 > 2", "may(4): 0 > -12", "may(11): 0 > 2",
                "about(0, 5): -1 > 380");
        changes("strike of a carry", b -> of(b.strike(Rich.CARRY)), "about(2, 5): -1 > 380");
        changes("strike of a ceiling", b -> of(b.strike(Rich.CEILING)), "about(1, 5): -1 > 380");
        changes("move", b -> of(b.move(Rich.VOTE, Rich.CARRY, 7)), "left(0, 1): 8896 > 8889",
                "left(2, 1): 5200 > 5207");
        changes("commit", b -> b.commit(Rich.STANDING, 7, 0, 2), "count(5): 2 > 3", "left(3, 0): 400 > 393",
                "left(3, 1): 300 > 293", "left(3, 2): 300 > 293");
        Rich.changes(DUE, "close", b -> of(b.now(720)), b -> b.close(1), "count(4): 12 > 14", "count(13): 1 > 2",
                "about(12, 0): -1 > 2", "about(12, 1): -1 > 0", "about(12, 2): -1 > 2600", "about(12, 3): -1 > 2",
                "about(12, 4): -1 > 2", "about(12, 7): -1 > 720", "left(12, 2): -1000000000000 > 2600");
    }

    private static void claims() {
        changes("claim", b -> b.claim(1, 2, 3, 4, 0, true), "count(6): 12 > 13", "look(12, 0): -1 > 1",
                "look(12, 1): -1 > 2", "look(12, 2): -1 > 3", "look(12, 3): -1 > 4", "look(12, 4): -1 > 0",
                "look(12, 5): -1 > 1", "look(12, 6): -1 > 0", "look(12, 9): -1 > 0", "may(12): -1 > 0");
        changes("sign", b -> of(b.sign(Rich.OPEN, 1)), "look(3, 6): 0 > 2");
        changes("pay", b -> b.pay(Rich.OPEN), "count(7): 7 > 8", "sum(0): 1016476 > 1016406", "sum(2): 1644 > 1714",
                "look(3, 7): -1 > 380", "look(3, 8): -1 > 0", "may(3): 0 > -1", "paid(1, 0, 3599): 562 > 632",
                "found(1, 2): 1164 > 1234", "left(0, 1): 8896 > 8826");
        changes("pay of a contract", b -> b.pay(Rich.OF_CONTRACT), "count(7): 7 > 8", "sum(0): 1016476 > 1016396",
                "sum(2): 1644 > 1724", "look(4, 7): -1 > 380", "look(4, 8): -1 > 0", "may(4): 0 > -1",
                "paid(1, 0, 3599): 562 > 642", "paid(1, 1, 3599): 511 > 591", "found(1, 2): 1164 > 1244",
                "left(1, 1): 319 > 239");
    }

    private static void weeksAndLoans() {
        changes("ask", b -> b.ask(3, 7, 60, false), "count(8): 3 > 4", "more(100): 50 > 7", "cut(125): 1 > 9",
                "more(125): 25 > 32", "cut(150): 5 > 9", "more(150): 10 > 7", "cut(175): 3 > 11", "more(175): 35 > 42",
                "cut(200): 3 > 11", "more(200): 10 > 17", "cut(225): 7 > 15");
        changes("comes", b -> of(b.comes(0, 77)), "sum(0): 1016476 > 1016553", "sum(1): 1017520 > 1017597",
                "came(0, 1, 2): 5 > 82");
        changes("due", b -> of(b.due(4, 900000)), "sum(5): 1605017 > 2505017", "judge(1): -40 > -11",
                "judge(2): 60 > -11", "judge(3): 110 > -40", "judge(5): -40 > -11", "judge(6): 61 > -11",
                "judge(7): 111 > -40", "plan(): 2 > -1");
        changes("offer", b -> b.offer(9, 5, 3, 2), "count(9): 3 > 4", "judge(8): -1 > -11", "judge(9): -1 > -40",
                "judge(10): -1 > 62", "judge(11): -1 > 112", "judge(12): -1 > -11", "judge(13): -1 > -40",
                "judge(14): -1 > 63", "judge(15): -1 > 113");
        changes("bid", b -> b.bid(5, 5), "count(10): 3 > 4");
        changes("tender", b -> b.tender(2500, true), "count(10): 3 > 0", "count(11): 3 > 5",
                "sum(0): 1016476 > 1018976", "sum(3): 600 > 3100", "loan(3, 0): -1 > 2000", "loan(3, 1): -1 > 10",
                "loan(3, 2): -1 > 380", "loan(3, 4): -1 > 0");
        changes("repay", b -> of(b.repay(1)), "sum(0): 1016476 > 1016176", "sum(3): 600 > 300", "loan(1, 3): -1 > 380");
        Rich.changes(DUE, "repay a year later", b -> of(b.now(740)), b -> of(b.repay(1)), "sum(0): 1016476 > 1016149",
                "sum(3): 600 > 300", "sum(4): 0 > 27", "loan(1, 3): -1 > 740");
    }

    private static void audit() {
        changes("draw", b -> b.draw(1, 0, 1000), "found(1, 1): 1020 > 1040", "drawn(1, 2): 2 > -1",
                "drawn(1, 3): 8 > -1");
        changes("draw of a year without claims", b -> b.draw(0, 0, 7));
        changes("test", b -> of(b.test(Rich.PAID, 31)), "found(1, 0): 1020 > 1031", "found(1, 1): 1020 > 1031",
                "found(1, 2): 1164 > 1175");
        changes("question", b -> of(b.question(Rich.PAID)), "look(0, 9): 0 > 1");
        changes("answer, well", b -> of(b.answer(Rich.ASKED, true)), "look(6, 9): 1 > 2");
        changes("answer, not well", b -> of(b.answer(Rich.ASKED, false)), "look(6, 9): 1 > 3", "surcharged(0): 47 > 53",
                "surcharged(1): 7 > 12");
        changes("falls", b -> b.falls(Rich.ADVANCE), "surcharged(3): 0 > 1000");
        changes("find", b -> of(b.find(Rich.PAID, 5)), "paid(1, 0, 3599): 562 > 557", "paid(1, 1, 3599): 511 > 506",
                "paid(1, 2, 3599): 451 > 446");
        changes("find of what an advance paid", b -> of(b.find(Rich.PAID_BY_ADVANCE, 5)),
                "paid(1, 3, 3599): 1000 > 995");
    }

    public static void main(String[] args) {
        time();
        peopleAndTexts();
        authorities();
        claims();
        weeksAndLoans();
        audit();
        DUE.end();
    }
}
