/**
 * "A call that is refused (NONE, false) changes nothing but the tape, where it is told": each reason for which a call
 * is refused, and that nothing which later calls show is otherwise then. Likewise the calls that only ask. And that
 * the probes would see it: each call that is taken shows in one of them.
 */
public final class RefusedTest {
    private static final int NONE = SupplyBook.NONE;
    private static final int MOST = Due.MOST;
    private static final Due DUE = new Due("RefusedTest");

    private static long of(boolean b) {
        return b ? 1 : 0;
    }

    private static void refused(String what, long want, Rich.Call call) {
        Rich.refused(DUE, what, want, call);
    }

    private static void refused(String what, long want, Rich.Call before, Rich.Call call) {
        Rich.refused(DUE, what, want, before, call);
    }

    private static void peopleAndTape() {
        refused("now, past", 0, b -> of(b.now(Rich.DAY - 1)));
        refused("now, today", 1, b -> of(b.now(Rich.DAY)));
        refused("a 41st head", NONE, b -> {
            while (b.count(1) < 40) {
                b.head(NONE);
            }
            return 0;
        }, b -> b.head(0));
        refused("a 17th hand", NONE, b -> {
            while (b.count(2) < 16) {
                b.hand(0, 1);
            }
            return 0;
        }, b -> b.hand(0, 9));
        refused("feed beyond 400", NONE, b -> {
            while (b.count(12) < 400) {
                b.feed(9, 9, 9, 9, 9);
            }
            return 0;
        }, b -> b.feed(1, 2, 3, 4, 5));
    }

    private static void texts() {
        refused("a law of no day", NONE, b -> b.law(0, 3600, 7));
        refused("a law of no bytes", NONE, b -> b.law(0, 3599, 0));
        refused("a law of more than there is", NONE, b -> b.law(0, 3599, Rich.TAPE + 1));
        refused("a law of more than there is, by far", NONE, b -> b.law(0, 3599, 200));
        refused("a 21st law", NONE, b -> fillLaws(b), b -> b.law(0, 3599, 7));
        refused("a 21st law with a fault", NONE, b -> fillLaws(b), b -> b.law(0, 3599, 8));
        refused("words of more than there is", NONE, b -> b.vote(0, 0, 1, 0, Rich.TAPE + 1));
        refused("an 81st vote", NONE, b -> fillVotes(b), b -> b.vote(0, 0, 1, 1, 7));
        refused("an 81st vote with a fault", NONE, b -> fillVotes(b), b -> b.vote(0, 0, 1, 1, 8));
        refused("an 81st vote of no words", NONE, b -> fillVotes(b), b -> b.vote(0, 0, 1, 1, 0));
        refused("words of a kind that has none", NONE, b -> b.vote(4, 0, 1, 1, 7));
        Rich.refusedWithTape(DUE, "a law with a fault", -1001, b -> b.law(0, 3599, 1));
        Rich.refusedWithTape(DUE, "a law with a fault at its end", -1007, b -> b.law(0, 3599, 8));
        Rich.refusedWithTape(DUE, "words with a fault", -1006, b -> b.vote(0, 0, 1, 1, 6));
        String[] faulty = {"m101", "o(a=1234567)", "o(u40)", "o(((((((((a=1)))))))))", "q"};
        int[] faults = {-3001, -2010, -3003, -5009, -1000};
        for (int i = 0; i < faulty.length; i++) {
            String text = faulty[i];
            int fault = faults[i];
            Rich.refusedWithTape(DUE, "a law " + text, fault, b -> refeed(b, text) + b.law(0, 3599, text.length()));
        }
        Rich.refusedWithTape(DUE, "words m1", -6000, b -> refeed(b, "m1") + b.vote(0, 0, 1, 1, 2));
    }

    private static long refeed(SupplyBook b, String text) {
        b.law(0, 0, Rich.TAPE);
        Due.feed(b, text);
        return 0;
    }

    /** To 20 laws, with the tape as it was. */
    private static long fillLaws(SupplyBook b) {
        b.law(0, 0, Rich.TAPE);
        while (b.count(3) < 20) {
            Due.law(b, 1, 2, "t(a=1)");
        }
        return retell(b);
    }

    private static long fillVotes(SupplyBook b) {
        b.law(0, 0, Rich.TAPE);
        while (b.count(4) < 80) {
            b.vote(0, 3, 1, 1, 0);
        }
        return retell(b);
    }

    private static long retell(SupplyBook b) {
        Due.feed(b, Rich.TAPE_TEXT);
        Due.feedNumbers(b, 1, 2, 3, 4, 5, 6, 7, 8, 9, 10);
        return 0;
    }

    private static void authorities() {
        refused("an 81st, a ceiling", NONE, b -> fillVotes(b), b -> b.ceiling(Rich.VOTE, 1, 1));
        refused("a ceiling of a ceiling", NONE, b -> b.ceiling(Rich.CEILING, 1, 1));
        refused("a ceiling for a head above", NONE, b -> b.ceiling(Rich.COVERED, 0, 1));
        refused("an 81st, an advance", NONE, b -> fillVotes(b), b -> b.advance(0, 1));
        refused("advances above e thousands", NONE, b -> b.advance(0, 1001));
        refused("advances with all of e told", NONE, b -> b.advance(0, 1000), b -> b.advance(0, 1));
        refused("cover a covered one", 0, b -> of(b.cover(Rich.COVERED, Rich.VOTE)));
        refused("cover a covered one by another", 0, b -> b.vote(0, 0, 9000, 1, 0),
                b -> of(b.cover(Rich.COVERED, Rich.AUTHORITIES)));
        refused("cover what is no advance", 0, b -> of(b.cover(Rich.CARRY, Rich.VOTE)));
        refused("cover by itself", 0, b -> of(b.cover(Rich.ADVANCE, Rich.ADVANCE)));
        refused("cover by a carry", 0, b -> of(b.cover(Rich.FALLEN, Rich.CARRY)));
        refused("cover by a standing one", 0, b -> of(b.cover(Rich.FALLEN, Rich.STANDING)));
        refused("cover by a struck vote", 0, b -> of(b.cover(Rich.FALLEN, Rich.STRUCK)));
        refused("cover by a vote of another year", 0, b -> of(b.cover(Rich.FALLEN, Rich.NEXT_YEAR)));
        refused("cover by a vote elsewhere", 0, b -> of(b.cover(Rich.ADVANCE, Rich.VOTE)));
        refused("cover by a vote with less left", 0, b -> of(b.cover(Rich.ADVANCE, Rich.STRICT)));
        refused("cover by a vote with a penny less", 0, b -> b.vote(0, 3, 999, 1, 0),
                b -> of(b.cover(Rich.ADVANCE, Rich.AUTHORITIES)));
        refused("strike twice", 0, b -> of(b.strike(Rich.STRUCK)));
        refused("strike twice, the second day", 0, b -> of(b.strike(Rich.VOTE)) + of(b.now(400)),
                b -> of(b.strike(Rich.VOTE)));
    }

    private static void movesAndContracts() {
        refused("move to itself", 0, b -> of(b.move(Rich.VOTE, Rich.VOTE, 1)));
        refused("move nothing to itself", 0, b -> of(b.move(Rich.VOTE, Rich.VOTE, 0)));
        refused("move above m hundredths", 0, b -> of(b.move(Rich.VOTE, Rich.CARRY, 4801)));
        refused("move from a struck one", 0, b -> of(b.move(Rich.STRUCK, Rich.VOTE, 1)));
        refused("move to a struck one", 0, b -> of(b.move(Rich.VOTE, Rich.STRUCK, 1)));
        refused("move from another year", 0, b -> of(b.move(Rich.NEXT_YEAR, Rich.VOTE, 1)));
        refused("move to another year", 0, b -> of(b.move(Rich.VOTE, Rich.OLD_CARRY, 1)));
        refused("move from a standing one", 0, b -> of(b.move(Rich.STANDING, Rich.VOTE, 1)));
        refused("move to an advance", 0, b -> of(b.move(Rich.VOTE, Rich.ADVANCE, 1)));
        refused("move to a ceiling", 0, b -> of(b.move(Rich.VOTE, Rich.CEILING, 1)));
        refused("move a sum below 0", 0, b -> of(b.move(Rich.VOTE, Rich.CARRY, -1)));
        refused("commit a ceiling", NONE, b -> b.commit(Rich.CEILING, 1, 1, 1));
        refused("commit an advance", NONE, b -> b.commit(Rich.ADVANCE, 1, 1, 1));
        refused("commit a struck one", NONE, b -> b.commit(Rich.STRUCK, 1, 1, 1));
        refused("commit more than is left", NONE, b -> b.commit(Rich.VOTE, 8897, 1, 1));
        refused("commit more than is left in one year of many", NONE, b -> b.commit(Rich.STANDING, 301, 0, 5));
        refused("commit a year that it is not of", NONE, b -> b.commit(Rich.VOTE, 1, 1, 2));
        refused("commit years turned round", NONE, b -> b.commit(Rich.STANDING, 1, 3, 2));
        refused("a 21st contract", NONE, b -> {
            while (b.count(5) < 20) {
                b.commit(Rich.VOTE, 0, 1, 1);
            }
            return 0;
        }, b -> b.commit(Rich.VOTE, 0, 1, 1));
    }

    private static void claims() {
        refused("a claim for a head above", NONE, b -> b.claim(2, 0, 0, 1, NONE, true));
        refused("a claim of nothing", NONE, b -> b.claim(0, 0, 0, 0, NONE, true));
        refused("a claim of no contract there is", NONE, b -> b.claim(0, 0, 0, 1, 2, true));
        refused("a 301st claim", NONE, b -> {
            while (b.count(6) < 300) {
                b.claim(0, 0, 0, 1, NONE, false);
            }
            return 0;
        }, b -> b.claim(0, 0, 0, 1, NONE, false));
        refused("sign one's own", 0, b -> of(b.sign(Rich.OPEN, 0)));
        refused("sign twice", 0, b -> of(b.sign(Rich.SIGNED, 1)));
        refused("sign from a head below", 0, b -> of(b.sign(Rich.OPEN, 2)));
        refused("sign what is paid", 0, b -> of(b.sign(Rich.WELL, 0)));
        refused("may of what is paid", NONE, b -> b.may(Rich.PAID));
        refused("pay what is paid", NONE, b -> b.pay(Rich.PAID));
        refused("pay of a contract that is over", -13,
                b -> of(b.now(1440)) + b.claim(0, 0, 0, 1, 1, false), b -> b.pay(Rich.CLAIMS));
        refused("pay without an authority", -11, b -> of(b.now(3599)) + of(b.strike(Rich.STANDING)),
                b -> b.pay(Rich.ELSEWHERE));
        refused("pay, all struck", -12, b -> strikeAll(b), b -> b.pay(Rich.OPEN));
        refused("pay, less is left", -13, b -> b.pay(Rich.TOO_MUCH));
        refused("pay, by a ceiling", -14, b -> strikeAll(b) + b.vote(0, 0, 99, 1, 0)
                + b.ceiling(Rich.AUTHORITIES, 0, 69), b -> b.pay(Rich.OPEN));
        refused("pay, by a rule", -15, b -> only(b, "n(a=70)"), b -> b.pay(Rich.OPEN));
        refused("pay, a sign lacks", -16, b -> only(b, "s(a=70)1"), b -> b.pay(Rich.OPEN));
        refused("pay, a tender lacks", -17, b -> only(b, "t(a=70)"), b -> b.pay(Rich.OPEN));
        refused("pay, refused", -18, b -> only(b, "t(1%[a-70]=0)"), b -> b.pay(Rich.OPEN));
        refused("pay, the chest lacks", -9, b -> drain(b), b -> b.pay(b.count(6) - 1));
    }

    private static long strikeAll(SupplyBook b) {
        for (int v = 0; v < Rich.AUTHORITIES; v++) {
            b.strike(v);
        }
        return 0;
    }

    /** One vote alone, with words; the tape as it was. */
    private static long only(SupplyBook b, String words) {
        b.law(0, 0, Rich.TAPE);
        strikeAll(b);
        Due.vote(b, 0, 0, 1000, 1, words);
        return retell(b);
    }

    /** A vote and a claim of more than the chest has. */
    private static long drain(SupplyBook b) {
        b.law(0, 0, Rich.TAPE);
        b.vote(0, 0, MOST, 1, 0);
        b.claim(0, 0, 0, (int) b.sum(0) + 1, NONE, false);
        return retell(b);
    }

    private static void cutsAndWeeks() {
        refused("a 15th item", NONE, b -> {
            while (b.count(8) < 14) {
                b.ask(0, 1, 1, false);
            }
            return 0;
        }, b -> b.ask(0, 1, 1, false));
        refused("cut below the floors", NONE, b -> b.cut(99));
        refused("more below the floors", NONE, b -> b.more(99));
        refused("too much of a tax in a week", 0, b -> of(b.comes(0, MOST - 4)));
        refused("a penny too much", 0, b -> of(b.comes(0, MOST - 5)), b -> of(b.comes(0, 1)));
        refused("due of no week", 0, b -> of(b.due(52, 1)));
        refused("a tenth offer", NONE, b -> {
            while (b.count(9) < 9) {
                b.offer(1, 1, 1, 1);
            }
            return 0;
        }, b -> b.offer(1, 1, 1, 1));
        refused("judge of offers that are not there", NONE, b -> b.judge(8));
        refused("no plan", NONE, b -> of(b.due(3, MOST)) + of(b.due(3, MOST)), b -> b.plan());
    }

    private static void loans() {
        refused("a 13th bid", NONE, b -> {
            while (b.count(10) < 12) {
                b.bid(1, 1);
            }
            return 0;
        }, b -> b.bid(1, 1));
        refused("a tender for nothing", NONE, b -> b.tender(0, true));
        refused("a tender above b thousands", NONE, b -> b.bid(5000, 1), b -> b.tender(8401, true));
        refused("a tender of too many loans", NONE, b -> {
            for (int t = 0; t < 2; t++) {
                while (b.count(10) < 12) {
                    b.bid(1, 1);
                }
                b.tender(9000, false);
            }
            while (b.count(10) < 12) {
                b.bid(1, 1);
            }
            return 0;
        }, b -> b.tender(12, false));
        refused("repay what was", 0, b -> of(b.repay(0)));
        refused("repay with too little", 0, b -> {
            drain(b);
            b.comes(2, 1);
            return b.pay(b.count(6) - 1);
        }, b -> of(b.repay(1)));
    }

    private static void audit() {
        refused("draw with start at step", NONE, b -> b.draw(1, 100, 100));
        refused("draw of no step", NONE, b -> b.draw(1, 0, 0));
        refused("test what is not drawn", 0, b -> of(b.test(Rich.ASKED, 1)));
        refused("test what is not paid", 0, b -> of(b.test(Rich.OPEN, 1)));
        refused("test with too great a fault", 0, b -> of(b.test(Rich.PAID, 501)));
        refused("a question about what is not paid", 0, b -> of(b.question(Rich.OPEN)));
        refused("a question asked, open", 0, b -> of(b.question(Rich.ASKED)));
        refused("a question asked, well", 0, b -> of(b.question(Rich.WELL)));
        refused("a question asked, not well", 0, b -> of(b.question(Rich.NOT_WELL)));
        refused("an answer to none", 0, b -> of(b.answer(Rich.PAID, false)));
        refused("an answer once more, well", 0, b -> of(b.answer(Rich.WELL, false)));
        refused("an answer once more, not well", 0, b -> of(b.answer(Rich.NOT_WELL, false)));
        refused("falls asked for", NONE, b -> b.falls(Rich.FALLEN));
        refused("falls, but was covered", NONE, b -> b.falls(Rich.COVERED));
        refused("falls, no advance", NONE, b -> b.falls(Rich.VOTE));
        refused("falls, not by now", NONE, b -> b.advance(0, 1), b -> b.falls(Rich.AUTHORITIES));
        refused("find more than is left of it", 0, b -> of(b.find(Rich.PAID, 431)));
        refused("find nothing", 0, b -> of(b.find(Rich.PAID, 0)));
        refused("find of what is not paid", 0, b -> of(b.find(Rich.OPEN, 1)));
        refused("a 101st find", 0, b -> {
            for (int i = 3; i < 100; i++) {
                b.find(Rich.PAID_BY_ADVANCE, 1);
            }
            return 0;
        }, b -> of(b.find(Rich.PAID_BY_ADVANCE, 1)));
        refused("close again", NONE, b -> b.close(0));
        refused("close this year", NONE, b -> b.close(1));
        refused("close with an earlier one open", NONE, b -> of(b.now(1080)), b -> b.close(2));
        refused("close with an earlier one open, the last", NONE, b -> of(b.now(3599)), b -> b.close(8));
        refused("check of more than there is", -2, b -> b.check(1, 6));
        refused("check of no year", -2, b -> b.check(10, 0));
    }

    /** What only asks changes nothing, either. */
    private static void asking() {
        refused("under", 1, b -> b.under(2, 0));
        refused("counts", 0, b -> b.counts(2, 379));
        refused("number", 50, b -> b.number(0, 0));
        refused("left", 8896, b -> b.left(Rich.VOTE, 1));
        refused("may", Rich.VOTE, b -> b.may(Rich.OPEN));
        refused("may not", -13, b -> b.may(Rich.TOO_MUCH));
        refused("cut", 7, b -> b.cut(MOST));
        refused("more", 0, b -> b.more(MOST));
        refused("came", 100001, b -> b.came(0, 0, 1));
        refused("foretold", 100003L * 400000 / 200001, b -> b.foretold(0, 3, 0));
        refused("short", 9, b -> b.shortWeek());
        refused("plan", 2, b -> b.plan());
        refused("judge", 111, b -> b.judge(7));
        refused("loan", 900, b -> b.loan(1, 1));
        refused("drawn", Rich.NOT_WELL, b -> b.drawn(1, 3));
        refused("found", 1020, b -> b.found(1, 0));
        refused("surcharged", 47, b -> b.surcharged(0));
        refused("paid", 644 - 82, b -> b.paid(1, 0, 3599));
        refused("look", 2, b -> b.look(Rich.SIGNED, 6));
        refused("about", Rich.VOTE, b -> b.about(Rich.COVERED, 6));
        refused("count", Rich.TAPE, b -> b.count(12));
        refused("sum", 600, b -> b.sum(3));
        Rich.refusedWithTape(DUE, "check, the first number", 0, b -> b.check(1, 1));
        Rich.refusedWithTape(DUE, "check of none", NONE, b -> b.check(0, 0));
        Rich.refusedWithTape(DUE, "check of none, some lack", 0, b -> b.check(1, 0));
    }

    /** Each call that is taken shows in a probe: so the probes would see what a refused one changed. */
    private static void probesSee() {
        taken("now", 1, b -> of(b.now(381)));
        taken("head", 4, b -> b.head(0));
        taken("hand", 4, b -> b.hand(0, 1));
        taken("feed", 80, b -> b.feed(0, 0, 0, 0, 0));
        taken("law", 5, b -> b.law(0, 3599, 7));
        taken("law of another day", 5, b -> b.law(3000, 3599, 7));
        taken("vote", 12, b -> b.vote(0, 0, 1, 1, 0));
        taken("ceiling", 12, b -> b.ceiling(Rich.VOTE, 1, 1));
        taken("advance", 12, b -> b.advance(0, 1));
        taken("cover", 1, b -> of(b.cover(Rich.FALLEN, Rich.VOTE)));
        taken("strike", 1, b -> of(b.strike(Rich.STRICT)));
        taken("move", 1, b -> of(b.move(Rich.VOTE, Rich.CARRY, 1)));
        taken("commit", 2, b -> b.commit(Rich.VOTE, 0, 1, 1));
        taken("claim", 12, b -> b.claim(0, 0, 0, 1, NONE, false));
        taken("sign", 1, b -> of(b.sign(Rich.OPEN, 1)));
        taken("pay", 0, b -> b.pay(Rich.OPEN));
        taken("pay of a contract", 0, b -> b.pay(Rich.OF_CONTRACT));
        taken("ask", 3, b -> b.ask(0, 0, 0, false));
        taken("comes", 1, b -> of(b.comes(5, 1)));
        taken("due", 1, b -> of(b.due(0, 1)));
        taken("offer", 3, b -> b.offer(0, 0, 1, 0));
        taken("bid", 3, b -> b.bid(1, 9999));
        taken("tender", 1, b -> b.tender(1, false));
        taken("repay", 1, b -> of(b.repay(1)));
        taken("draw", 1, b -> b.draw(1, 0, MOST));
        taken("draw of like claims", 4, b -> b.draw(1, 3, 101));
        taken("test", 1, b -> of(b.test(Rich.NOT_WELL, 0)));
        taken("question", 1, b -> of(b.question(Rich.PAID)));
        taken("answer", 1, b -> of(b.answer(Rich.ASKED, true)));
        taken("falls", 1000, b -> b.falls(Rich.ADVANCE));
        taken("find", 1, b -> of(b.find(Rich.PAID_BY_ADVANCE, 1)));
        taken("close", 2, b -> b.now(720) ? b.close(1) : NONE);
    }

    private static void taken(String what, long want, Rich.Call call) {
        Rich.taken(DUE, what, want, call);
    }

    public static void main(String[] args) {
        peopleAndTape();
        texts();
        authorities();
        movesAndContracts();
        claims();
        cutsAndWeeks();
        loans();
        audit();
        asking();
        probesSee();
        DUE.end();
    }
}
