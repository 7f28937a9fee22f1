/**
 * Each number that each call takes, on both sides: the last that is taken and the first that is not, and that a call
 * that is refused changes nothing. All on the book of Rich, whose numbers the edges are.
 */
public final class EdgesTest {
    private static final int NONE = SupplyBook.NONE;
    private static final int MOST = Due.MOST;
    private static final long NOT_LEFT = -1000000000000L;
    /** Taken, whatever the answer: it is not that of a refused call. */
    private static final long ANY = Long.MIN_VALUE;
    private static final Due DUE = new Due("EdgesTest");

    interface Ask {
        long on(SupplyBook book, int x);
    }

    private static void range(String what, int low, int high, long taken, long refused, Ask ask) {
        range(what, low, high, taken, refused, book -> 0, ask);
    }

    private static void range(String what, int low, int high, long taken, long refused, Rich.Call before, Ask ask) {
        long middle = ((long) low + high) / 2;
        long[] tried = {Integer.MIN_VALUE, (long) Integer.MIN_VALUE + low, (long) Integer.MIN_VALUE + high, low - 256L,
            low - 2L, low - 1L, low, low + 1L, middle, high - 1L, high, high + 1L, high + 2L, high + 256L, low + 65536L,
            Integer.MAX_VALUE};
        for (long x : tried) {
            if (x >= Integer.MIN_VALUE && x <= Integer.MAX_VALUE) {
                one(what, (int) x, low <= x && x <= high, taken, refused, before, ask);
            }
        }
    }

    /** Of all numbers from -2 to some behind the last, those that are taken. */
    private static void only(String what, int behind, long taken, long refused, Ask ask, int... those) {
        only(what, behind, taken, refused, book -> 0, ask, those);
    }

    private static void only(String what, int behind, long taken, long refused, Rich.Call before, Ask ask,
            int... those) {
        for (int x = -2; x <= behind + 1; x++) {
            boolean isTaken = false;
            for (int t : those) {
                isTaken |= t == x;
            }
            one(what, x, isTaken, taken, refused, before, ask);
        }
        one(what, Integer.MIN_VALUE, false, taken, refused, before, ask);
        one(what, Integer.MAX_VALUE, false, taken, refused, before, ask);
    }

    private static void one(String what, int x, boolean isTaken, long taken, long refused, Rich.Call before, Ask ask) {
        String name = what + " at " + x;
        if (!isTaken) {
            Rich.refused(DUE, name, refused, before, book -> ask.on(book, x));
            return;
        }
        SupplyBook book = Rich.book();
        before.on(book);
        long got = ask.on(book, x);
        if (taken == ANY) {
            DUE.yes(name + " is taken", got != refused);
        } else {
            DUE.is(name, got, taken);
        }
    }

    private static long of(boolean b) {
        return b ? 1 : 0;
    }

    private static void people() {
        range("now", Rich.DAY, 3599, 1, 0, (b, x) -> of(b.now(x)));
        range("head: parent", NONE, 3, 4, NONE, (b, x) -> b.head(x));
        range("under: a", 0, 3, ANY, NONE, (b, x) -> b.under(x, 0));
        range("under: b", 0, 3, ANY, NONE, (b, x) -> b.under(0, x));
        range("hand: head", 0, 3, 4, NONE, (b, x) -> b.hand(x, 1));
        range("hand: rank", 1, 9, 4, NONE, (b, x) -> b.hand(0, x));
    }

    private static void laws() {
        range("law: from", 0, 3599, 5, NONE, (b, x) -> b.law(x, 3599, 7));
        range("law: to", 0, 3599, 5, NONE, (b, x) -> b.law(0, x, 7));
        range("law: from, not behind to", 0, 100, 5, NONE, (b, x) -> b.law(x, 100, 7));
        range("law: to, not ahead of from", 100, 3599, 5, NONE, (b, x) -> b.law(100, x, 7));
        range("law: n", 1, Rich.TAPE, ANY, NONE, (b, x) -> b.law(0, 3599, x));
        Rich.Call full = b -> {
            while (b.feed(0, 0, 0, 0, 0) != NONE) {
                continue;
            }
            return 0;
        };
        range("law: n of a full tape", 1, 200, ANY, NONE, full, (b, x) -> b.law(0, 3599, x));
        range("vote: n of a full tape", 0, 200, ANY, NONE, full, (b, x) -> b.vote(0, 0, 1, 0, x));
        range("counts: law", 0, 4, ANY, NONE, (b, x) -> b.counts(x, 380));
        range("counts: day", 0, 3599, ANY, NONE, (b, x) -> b.counts(0, x));
        range("number: letter", 0, 4, ANY, NONE, (b, x) -> b.number(x, 380));
        range("number: day", 0, 3599, ANY, NONE, (b, x) -> b.number(4, x));
    }

    private static void votes() {
        only("vote: kind", 5, 12, NONE, (b, x) -> b.vote(x, 0, 1, 0, 7), 0, 2, 3);
        range("vote: head", 0, 3, 12, NONE, (b, x) -> b.vote(0, x, 1, 0, 7));
        range("vote: sum", 0, MOST, 12, NONE, (b, x) -> b.vote(2, 0, x, 0, 7));
        range("vote: year", 0, 9, 12, NONE, (b, x) -> b.vote(3, 0, 1, x, 7));
        range("vote: n", 0, Rich.TAPE, ANY, NONE, (b, x) -> b.vote(0, 0, 1, 0, x));
        only("ceiling: authority above head 2", 12, 12, NONE, (b, x) -> b.ceiling(x, 2, 5), 0, 2, 3, 5, 6, 7, 8, 9, 11);
        only("ceiling: authority above head 3", 12, 12, NONE, (b, x) -> b.ceiling(x, 3, 5), 4, 10);
        range("ceiling: head under 0", 0, 2, 12, NONE, (b, x) -> b.ceiling(Rich.VOTE, x, 5));
        range("ceiling: head under 1", 1, 2, 12, NONE, (b, x) -> b.ceiling(Rich.COVERED, x, 5));
        range("ceiling: sum", 0, MOST, 12, NONE, (b, x) -> b.ceiling(Rich.VOTE, 1, x));
        range("advance: head", 0, 3, 12, NONE, (b, x) -> b.advance(x, 1));
        range("advance: sum, e thousands in all", 0, 1000, 12, NONE, (b, x) -> b.advance(0, x));
        only("cover: the advance", 12, 1, 0, (b, x) -> of(b.cover(x, Rich.VOTE)), Rich.FALLEN);
        only("cover: the vote", 12, 1, 0, (b, x) -> of(b.cover(Rich.FALLEN, x)), Rich.VOTE);
        only("strike", 12, 1, 0, (b, x) -> of(b.strike(x)), 0, 1, 2, 3, 4, 5, 7, 8, 9, 10, 11);
    }

    private static void moves() {
        only("move: from", 12, 1, 0, (b, x) -> of(b.move(x, Rich.CARRY, 1)), Rich.VOTE, Rich.STRICT, Rich.NEW_CARRY);
        only("move: to", 12, 1, 0, (b, x) -> of(b.move(Rich.VOTE, x, 1)), Rich.CARRY, Rich.STRICT, Rich.NEW_CARRY);
        range("move: sum, half of 10000 less 200", 0, 4800, 1, 0, (b, x) -> of(b.move(Rich.VOTE, Rich.CARRY, x)));
        range("move: sum, what is left", 0, 8896, 1, 0, b -> b.law(0, 0, Rich.TAPE) + Due.law(b, "m100"),
                (b, x) -> of(b.move(Rich.VOTE, Rich.CARRY, x)));
        only("commit: authority", 12, 2, NONE, (b, x) -> b.commit(x, 1, 1, 1), 0, 2, 3, 10, 11);
        range("commit: sum, what is left", 0, 8896, 2, NONE, (b, x) -> b.commit(Rich.VOTE, x, 1, 1));
        range("commit: sum, what is left of all years", 0, 300, 2, NONE, (b, x) -> b.commit(Rich.STANDING, x, 0, 9));
        range("commit: from", 0, 3, 2, NONE, (b, x) -> b.commit(Rich.STANDING, 1, x, 3));
        range("commit: to", 2, 9, 2, NONE, (b, x) -> b.commit(Rich.STANDING, 1, 2, x));
        range("commit: from, of one year", 1, 1, 2, NONE, (b, x) -> b.commit(Rich.VOTE, 1, x, 1));
        range("commit: to, of one year", 1, 1, 2, NONE, (b, x) -> b.commit(Rich.VOTE, 1, 1, x));
        only("left: authority", 12, ANY, NOT_LEFT, (b, x) -> b.left(x, 1), 0, 1, 2, 3, 4, 5, 6, 8, 10, 11);
        range("left: year of a vote", 1, 1, 8896, NOT_LEFT, (b, x) -> b.left(Rich.VOTE, x));
        range("left: year of a ceiling", 1, 1, 319, NOT_LEFT, (b, x) -> b.left(Rich.CEILING, x));
        range("left: year of a standing one", 0, 9, ANY, NOT_LEFT, (b, x) -> b.left(Rich.STANDING, x));
    }

    private static void claims() {
        range("claim: hand", 0, 2, 12, NONE, (b, x) -> b.claim(x, 2, 0, 5, NONE, false));
        range("claim: head under 0", 0, 2, 12, NONE, (b, x) -> b.claim(0, x, 0, 5, NONE, false));
        range("claim: head under 1", 1, 2, 12, NONE, (b, x) -> b.claim(2, x, 0, 5, NONE, false));
        range("claim: head under 3", 3, 3, 12, NONE, (b, x) -> b.claim(3, x, 0, 5, NONE, false));
        range("claim: kind", 0, 9, 12, NONE, (b, x) -> b.claim(0, 0, x, 5, NONE, false));
        range("claim: sum", 1, MOST, 12, NONE, (b, x) -> b.claim(0, 0, 0, x, NONE, true));
        range("claim: contract", NONE, 1, 12, NONE, (b, x) -> b.claim(0, 0, 0, 5, x, false));
        only("sign: claim", 12, 1, 0, (b, x) -> of(b.sign(x, 1)), 3, 4);
        only("sign: hand of head 0", 4, 1, 0, (b, x) -> of(b.sign(Rich.OPEN, x)), 1);
        only("sign: hand of head 1", 4, 1, 0, (b, x) -> of(b.sign(Rich.OF_CONTRACT, x)), 1, 2);
        only("may", 12, ANY, NONE, (b, x) -> b.may(x), 3, 4, 5, 9, 11);
        only("pay", 12, ANY, NONE, (b, x) -> b.pay(x), 3, 4, 5, 9, 11);
        only("look: claim", 12, ANY, NONE, (b, x) -> b.look(x, 0), 0, 1, 2, 3, 4, 5, 6, 7, 8, 9, 10, 11);
        range("look: what", 0, 9, ANY, NONE, b -> b.pay(Rich.OF_CONTRACT), (b, x) -> b.look(Rich.OF_CONTRACT, x));
        range("about: authority", 0, 11, ANY, NONE, (b, x) -> b.about(x, 0));
        range("about: what", 0, 7, ANY, NONE, b -> of(b.strike(Rich.COVERED)), (b, x) -> b.about(Rich.COVERED, x));
        range("count", 0, 13, ANY, NONE, (b, x) -> b.count(x));
        range("sum", 0, 5, ANY, NONE, (b, x) -> b.sum(x));
    }

    private static void cuts() {
        range("ask: head", 0, 3, 3, NONE, (b, x) -> b.ask(x, 1, 1, false));
        range("ask: sum", 0, MOST, 3, NONE, (b, x) -> b.ask(0, x, 1, true));
        range("ask: worth", 0, 1000000, 3, NONE, (b, x) -> b.ask(0, 1, x, false));
        range("cut, with a floor of 100", 100, MOST, ANY, NONE, (b, x) -> b.cut(x));
        range("more, with a floor of 100", 100, MOST, ANY, NONE, (b, x) -> b.more(x));
    }

    private static void weeks() {
        range("comes: tax", 0, 5, 1, 0, (b, x) -> of(b.comes(x, 1)));
        range("comes: sum", 0, MOST, 1, 0, (b, x) -> of(b.comes(2, x)));
        range("comes: sum, with 5 of this week", 0, MOST - 5, 1, 0, (b, x) -> of(b.comes(0, x)));
        range("came: tax", 0, 5, ANY, NONE, (b, x) -> b.came(x, 0, 0));
        range("came: year", 0, 9, ANY, NONE, (b, x) -> b.came(0, x, 0));
        range("came: week", 0, 51, ANY, NONE, (b, x) -> b.came(0, 0, x));
        range("foretold: tax", 0, 5, ANY, NONE, (b, x) -> b.foretold(x, 9, 0));
        range("foretold: week", 3, 51, ANY, NONE, (b, x) -> b.foretold(0, x, 0));
        range("foretold: what", 0, 2, ANY, NONE, (b, x) -> b.foretold(0, 5, x));
        range("due: week", 0, 51, 1, 0, (b, x) -> of(b.due(x, 1)));
        range("due: sum", 0, MOST, 1, 0, (b, x) -> of(b.due(9, x)));
        range("offer: sum", 0, MOST, 3, NONE, (b, x) -> b.offer(x, 8, 3, 4));
        range("offer: week", 0, 51, 3, NONE, (b, x) -> b.offer(7, x, 3, 4));
        range("offer: weeks", 1, 51, 3, NONE, (b, x) -> b.offer(7, 8, x, 4));
        range("offer: cost", 0, MOST, 3, NONE, (b, x) -> b.offer(7, 8, 3, x));
        range("judge", 0, 7, ANY, NONE, (b, x) -> b.judge(x));
    }

    private static void loans() {
        range("bid: sum", 1, MOST, 3, NONE, (b, x) -> b.bid(x, 5));
        range("bid: rate", 0, 9999, 3, NONE, (b, x) -> b.bid(1, x));
        range("tender: sum", 1, MOST, ANY, NONE, (b, x) -> b.tender(x, false));
        range("tender: sum, 9000 owed in all", 1, 8400, ANY, NONE, b -> b.bid(5000, 9999), (b, x) -> b.tender(x, true));
        only("repay", 4, 1, 0, (b, x) -> of(b.repay(x)), 1, 2);
        range("loan: its number", 0, 2, ANY, NONE, (b, x) -> b.loan(x, 0));
        range("loan: what", 0, 4, ANY, NONE, (b, x) -> b.loan(0, x));
    }

    private static void draws() {
        range("draw: year", 0, 9, ANY, NONE, (b, x) -> b.draw(x, 0, 1));
        range("draw: start below step", 0, 99, ANY, NONE, (b, x) -> b.draw(1, x, 100));
        range("draw: start below the greatest step", 0, MOST - 1, ANY, NONE, (b, x) -> b.draw(1, x, MOST));
        range("draw: step", 1, MOST, ANY, NONE, (b, x) -> b.draw(1, 0, x));
        range("draw: step above start", 6, MOST, ANY, NONE, (b, x) -> b.draw(1, 5, x));
        only("drawn: year", 10, 0, NONE, (b, x) -> b.drawn(x, 0), 1);
        range("drawn: i", 0, 3, ANY, NONE, (b, x) -> b.drawn(1, x));
        only("test: claim", 12, 1, 0, (b, x) -> of(b.test(x, 0)), 0, 1, 2, 8);
        range("test: fault", 0, 60, 1, 0, (b, x) -> of(b.test(Rich.PAID_BY_COVERED, x)));
        range("found: year", 0, 9, ANY, NONE, (b, x) -> b.found(x, 0));
        range("found: what", 0, 2, ANY, NONE, (b, x) -> b.found(1, x));
    }

    private static void audit() {
        only("question", 12, 1, 0, (b, x) -> of(b.question(x)), 0, 1, 2, 10);
        only("answer, well", 12, 1, 0, (b, x) -> of(b.answer(x, true)), Rich.ASKED);
        only("answer, not well", 12, 1, 0, (b, x) -> of(b.answer(x, false)), Rich.ASKED);
        only("falls", 12, 1000, NONE, (b, x) -> b.falls(x), Rich.ADVANCE);
        range("surcharged", 0, 3, ANY, NONE, (b, x) -> b.surcharged(x));
        only("find: claim", 12, 1, 0, (b, x) -> of(b.find(x, 1)), 0, 1, 2, 6, 8, 10);
        range("find: sum, 500 less 70", 1, 430, 1, 0, (b, x) -> of(b.find(Rich.PAID, x)));
        range("paid: year", 0, 9, ANY, NONE, (b, x) -> b.paid(x, 0, 380));
        range("paid: head", 0, 3, ANY, NONE, (b, x) -> b.paid(1, x, 380));
        range("paid: day", 0, 3599, ANY, NONE, (b, x) -> b.paid(1, 0, x));
        only("close in year 1", 10, ANY, NONE, (b, x) -> b.close(x));
        only("close in year 2", 10, 2, NONE, b -> of(b.now(720)), (b, x) -> b.close(x), 1);
        only("close in year 9", 10, 2, NONE, b -> of(b.now(3599)), (b, x) -> b.close(x), 1);
        range("check: year", 0, 9, ANY, -2, (b, x) -> b.check(x, 1));
        range("check: n", 0, 5, ANY, -2, (b, x) -> b.check(1, x));
    }

    public static void main(String[] args) {
        people();
        laws();
        votes();
        moves();
        claims();
        cuts();
        weeks();
        loans();
        draws();
        audit();
        DUE.end();
    }
}
