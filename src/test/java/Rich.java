import java.util.ArrayList;
import java.util.List;

/**
 * A book in which there is some of everything, and what shows that a call changed nothing: the same probes on a book
 * with the call and on one without it, each on books of their own, as some of them change what they ask.
 */
final class Rich {
    /** What a call on a book answers; a boolean counts 1 or 0. */
    interface Call {
        long on(SupplyBook book);
    }

    static final int NONE = SupplyBook.NONE;
    static final int DAY = 380;
    static final int HEADS = 4;
    static final int HANDS = 4;
    static final int LAWS = 5;
    static final int AUTHORITIES = 12;
    static final int CONTRACTS = 2;
    static final int CLAIMS = 12;
    static final int ITEMS = 3;
    static final int OFFERS = 3;
    static final int BIDS = 3;
    static final int LOANS = 3;
    static final int TAPE = 60;
    static final String TAPE_TEXT = "n(a=77)";

    static final int VOTE = 0;
    static final int CEILING = 1;
    static final int CARRY = 2;
    static final int STANDING = 3;
    static final int ADVANCE = 4;
    static final int COVERED = 5;
    static final int STRUCK = 6;
    static final int NEXT_YEAR = 7;
    static final int FALLEN = 8;
    static final int OLD_CARRY = 9;
    static final int STRICT = 10;
    static final int NEW_CARRY = 11;

    static final int PAID = 0;
    static final int PAID_BY_ADVANCE = 1;
    static final int PAID_BY_COVERED = 2;
    static final int OPEN = 3;
    static final int OF_CONTRACT = 4;
    static final int TOO_MUCH = 5;
    static final int ASKED = 6;
    static final int WELL = 7;
    static final int NOT_WELL = 8;
    static final int ELSEWHERE = 9;
    static final int PAID_BY_FALLEN = 10;
    static final int SIGNED = 11;

    private static final int PROBES = 9;
    private static final int PARTS = 3;

    private Rich() {
    }

    static long of(boolean b) {
        return b ? 1 : 0;
    }

    /** The book, with the tape told last. */
    static SupplyBook book() {
        SupplyBook book = bookWithoutTape();
        Due.feed(book, TAPE_TEXT);
        Due.feedNumbers(book, 1, 2, 3, 4, 5, 6, 7, 8, 9, 10);
        return book;
    }

    static SupplyBook bookWithoutTape() {
        SupplyBook book = new SupplyBook();
        book.head(NONE);
        book.head(0);
        book.head(1);
        book.head(NONE);
        book.hand(0, 3);
        book.hand(0, 5);
        book.hand(1, 9);
        book.hand(3, 1);
        Due.law(book, "b9;e9;m50;c50;d5");
        Due.law(book, 300, 3000, "n(a=666);s(a=13)4");
        Due.law(book, 380, 380, "x1.0;t(k=9)");
        yearNought(book);
        authorities(book);
        claims(book);
        yearOne(book);
        return book;
    }

    private static void yearNought(SupplyBook book) {
        for (int week = 0; week < 6; week++) {
            book.now(7 * week);
            book.comes(0, 100000 + week);
            book.comes(1, 700 * week);
        }
        book.now(358);
        book.comes(0, 3000);
    }

    private static void authorities(SupplyBook book) {
        book.vote(0, 0, 10000, 1, 0);
        book.ceiling(VOTE, 1, 900);
        Due.vote(book, 2, 0, 5000, 1, "t(a=14);o(a<5000)");
        book.vote(3, 0, 400, 0, 0);
        book.now(360);
        book.advance(3, 3000);
        book.advance(1, 4000);
        book.vote(0, 0, 800, 1, 0);
        book.vote(0, 0, 800, 2, 0);
        book.advance(0, 1000);
        book.vote(2, 0, 500, 0, 0);
        Due.vote(book, 0, 3, 9, 1, "t(a>0);n(1/[a-8]=1)");
        book.strike(STRUCK);
        book.commit(VOTE, 300, 1, 1);
        book.commit(STANDING, 100, 1, 3);
    }

    private static void claims(SupplyBook book) {
        book.claim(0, 2, 1, 500, NONE, false);
        book.claim(3, 3, 2, 1000, NONE, false);
        book.claim(2, 1, 3, 60, NONE, true);
        book.claim(0, 0, 4, 70, NONE, false);
        book.claim(0, 1, 5, 80, 0, false);
        book.claim(1, 0, 6, 900000, NONE, false);
        book.claim(1, 0, 7, 11, NONE, true);
        book.claim(1, 0, 8, 12, NONE, true);
        book.claim(1, 2, 9, 21, NONE, true);
        book.claim(3, 3, 0, 8, NONE, false);
        book.claim(0, 0, 0, 40, NONE, false);
        book.claim(0, 0, 0, 13, NONE, false);
    }

    private static void yearOne(SupplyBook book) {
        book.comes(0, 250000);
        book.sign(PAID, 1);
        book.pay(PAID);
        book.pay(PAID_BY_ADVANCE);
        payByAdvance(book, PAID_BY_COVERED, COVERED);
        book.cover(COVERED, VOTE);
        payByAdvance(book, PAID_BY_FALLEN, FALLEN);
        book.now(367);
        book.comes(0, 150000);
        book.comes(1, 4000);
        book.sign(ASKED, 0);
        book.pay(ASKED);
        book.pay(WELL);
        book.sign(NOT_WELL, 0);
        book.sign(NOT_WELL, 2);
        book.pay(NOT_WELL);
        book.question(ASKED);
        book.question(WELL);
        book.question(NOT_WELL);
        book.answer(WELL, true);
        book.answer(NOT_WELL, false);
        book.falls(FALLEN);
        book.move(VOTE, CARRY, 200);
        audits(book);
        loansAndWeeks(book);
        book.now(DAY);
        book.comes(0, 5);
        book.sign(SIGNED, 1);
        book.close(0);
        book.find(PAID, 30);
    }

    /** Lets an advance pay a claim that votes ahead of it would pay, too: there is a law for that day alone. */
    private static void payByAdvance(SupplyBook book, int claim, int advance) {
        int sum = book.look(claim, 3);
        int only = book.about(advance, 2) - sum;
        book.now(book.count(0) + 1);
        // only for the advance is so much left
        String text = "o(l=" + (only + sum) + ")";
        Due.feed(book, text);
        if (book.law(book.count(0), book.count(0), text.length()) == NONE) {
            throw new IllegalStateException("no law");
        }
        book.pay(claim);
    }

    private static void audits(SupplyBook book) {
        book.draw(1, 3, 100);
        book.test(PAID, 20);
        book.test(PAID_BY_ADVANCE, 1000);
        book.find(PAID, 40);
        book.find(WELL, 12);
    }

    private static void loansAndWeeks(SupplyBook book) {
        book.bid(500, 900);
        book.bid(700, 800);
        book.bid(300, 850);
        book.tender(1300, true);
        book.now(370);
        book.repay(0);
        book.bid(1000, 10);
        book.bid(2000, 5);
        book.bid(4000, 10);
        book.due(9, 1600000);
        book.due(20, 5000);
        book.due(0, 17);
        book.offer(600000, 8, 30, 50);
        book.offer(700000, 9, 43, 60);
        book.offer(5, 2, 4, 1);
        book.ask(0, 100, 50, true);
        book.ask(1, 60, 40, false);
        book.ask(2, 50, 30, false);
    }

    // ---- probes

    /** Whether a call answers as is due, and nothing that later calls show is otherwise than without it. */
    static void refused(Due due, String what, long want, Call call) {
        refused(due, what, want, book -> 0, call);
    }

    /** The same of a call behind another one, that may change what it likes. */
    static void refused(Due due, String what, long want, Call before, Call call) {
        for (int probe = 0; probe < PROBES; probe++) {
            SupplyBook with = book();
            SupplyBook without = book();
            before.on(with);
            before.on(without);
            long got = call.on(with);
            if (probe == 0) {
                due.is(what, got, want);
            }
            compare(due, what, probe, with, without);
        }
    }

    /** The same of a call that empties the tape, and changes nothing else. */
    static void refusedWithTape(Due due, String what, long want, Call call) {
        for (int probe = 0; probe < PROBES; probe++) {
            SupplyBook with = book();
            long got = call.on(with);
            if (probe == 0) {
                due.is(what, got, want);
            }
            compare(due, what, probe, with, bookWithoutTape());
        }
    }

    /** Whether a call answers as is due, and later calls show that it was taken. */
    static void taken(Due due, String what, long want, Call call) {
        int shown = 0;
        for (int probe = 0; probe < PROBES; probe++) {
            SupplyBook with = book();
            long got = call.on(with);
            if (probe == 0) {
                due.is(what, got, want);
            }
            shown += show(with, probe).equals(show(book(), probe)) ? 0 : 1;
        }
        due.yes(what + " shows", shown > 0);
    }

    /** Whether of all that can be asked a call changes these rows alone, each told as "row: without it > with it". */
    static void changes(Due due, String what, Call before, Call call, String... rows) {
        ArrayList<String> got = new ArrayList<>();
        for (int part = 0; part < PARTS; part++) {
            SupplyBook with = book();
            SupplyBook without = book();
            before.on(with);
            before.on(without);
            call.on(with);
            String[] shown = asked(with, part).split("\n");
            String[] plain = asked(without, part).split("\n");
            for (int i = 0; i < shown.length; i++) {
                if (!shown[i].equals(plain[i])) {
                    got.add(plain[i] + " >" + shown[i].substring(shown[i].lastIndexOf(':') + 1));
                }
            }
        }
        List<String> want = List.of(rows);
        for (String row : got) {
            due.yes(what + " changes " + row, want.contains(row));
        }
        for (String row : want) {
            due.yes(what + " does not change " + row, got.contains(row));
        }
    }

    /** What only asks: no row changes what a later one answers. */
    private static String asked(SupplyBook book, int part) {
        StringBuilder s = new StringBuilder();
        switch (part) {
            case 0: looks(book, s); break;
            case 1: abouts(book, s); break;
            default: foretells(book, s);
        }
        return s.toString();
    }

    private static void compare(Due due, String what, int probe, SupplyBook with, SupplyBook without) {
        String[] shown = show(with, probe).split("\n");
        String[] plain = show(without, probe).split("\n");
        int differs = shown.length == plain.length ? NONE : 0;
        for (int i = 0; i < Math.min(shown.length, plain.length); i++) {
            if (differs == NONE && !shown[i].equals(plain[i])) {
                differs = i;
                System.out.println(what + ": then " + shown[i] + ", without it " + plain[i]);
            }
        }
        due.is(what + " changes what probe " + probe + " shows, at row", differs, NONE);
    }

    private static String show(SupplyBook book, int probe) {
        StringBuilder s = new StringBuilder();
        switch (probe) {
            case 0: looks(book, s); break;
            case 1: abouts(book, s); break;
            case 2: tape(book, s); break;
            case 3: people(book, s); break;
            case 4: votes(book, s); break;
            case 5: payments(book, s); break;
            case 6: weeks(book, s); break;
            case 7: loans(book, s); break;
            default: audit(book, s);
        }
        return s.toString();
    }

    private static void row(StringBuilder s, String what, long got) {
        s.append(what).append(": ").append(got).append('\n');
    }

    private static void row(StringBuilder s, String what, boolean got) {
        row(s, what, of(got));
    }

    private static void looks(SupplyBook book, StringBuilder s) {
        for (int what = 0; what <= 13; what++) {
            row(s, "count(" + what + ")", book.count(what));
        }
        for (int what = 0; what <= 5; what++) {
            row(s, "sum(" + what + ")", book.sum(what));
        }
        for (int c = 0; c <= CLAIMS; c++) {
            for (int what = 0; what <= 9; what++) {
                row(s, "look(" + c + ", " + what + ")", book.look(c, what));
            }
            row(s, "may(" + c + ")", book.may(c));
        }
        for (int i = 0; i <= LOANS; i++) {
            for (int what = 0; what <= 4; what++) {
                row(s, "loan(" + i + ", " + what + ")", book.loan(i, what));
            }
        }
        for (int year = 0; year < 3; year++) {
            for (int i = 0; i < 4; i++) {
                row(s, "drawn(" + year + ", " + i + ")", book.drawn(year, i));
                row(s, "paid(" + year + ", " + i + ", 369)", book.paid(year, i, 369));
                row(s, "paid(" + year + ", " + i + ", 3599)", book.paid(year, i, 3599));
                row(s, "found(" + year + ", " + i + ")", book.found(year, i));
            }
        }
        for (int h = 0; h < HANDS; h++) {
            row(s, "surcharged(" + h + ")", book.surcharged(h));
        }
    }

    private static void abouts(SupplyBook book, StringBuilder s) {
        for (int v = 0; v <= AUTHORITIES; v++) {
            for (int what = 0; what <= 7; what++) {
                row(s, "about(" + v + ", " + what + ")", book.about(v, what));
            }
            for (int year = 0; year <= 3; year++) {
                row(s, "left(" + v + ", " + year + ")", book.left(v, year));
            }
        }
        for (int i = 0; i <= LAWS; i++) {
            row(s, "counts(" + i + ", 379)", book.counts(i, 379));
            row(s, "counts(" + i + ", 380)", book.counts(i, 380));
        }
        for (int letter = 0; letter < 5; letter++) {
            row(s, "number(" + letter + ", 380)", book.number(letter, 380));
        }
        for (int a = 0; a < HEADS; a++) {
            for (int b = 0; b < HEADS; b++) {
                row(s, "under(" + a + ", " + b + ")", book.under(a, b));
            }
        }
        for (int total = 0; total < 250; total += 25) {
            row(s, "cut(" + total + ")", book.cut(total));
            row(s, "more(" + total + ")", book.more(total));
        }
    }

    private static void foretells(SupplyBook book, StringBuilder s) {
        for (int year = 0; year < 3; year++) {
            for (int week = 0; week < 52; week++) {
                row(s, "came(0, " + year + ", " + week + ")", book.came(0, year, week));
            }
        }
        int[] weeks = {2, 3, 4, 5, 51};
        for (int week : weeks) {
            for (int what = 0; what < 3; what++) {
                row(s, "foretold(0, " + week + ", " + what + ")", book.foretold(0, week, what));
                row(s, "foretold(1, " + week + ", " + what + ")", book.foretold(1, week, what));
            }
        }
        for (int set = 0; set < 16; set++) {
            row(s, "judge(" + set + ")", book.judge(set));
        }
        row(s, "plan()", book.plan());
        row(s, "shortWeek()", book.shortWeek());
    }

    private static void tape(SupplyBook book, StringBuilder s) {
        row(s, "bytes", book.count(12));
        row(s, "text", book.law(0, 3599, TAPE_TEXT.length()));
        Due.claim(book, 77);
        row(s, "may by that text", book.may(CLAIMS));
        row(s, "bytes", book.count(12));
        for (int i = 0; i < 21; i++) {
            row(s, "feed " + i, book.feed(i, 2, 3, 4, 5));
        }
        row(s, "check", book.check(1, 1));
    }

    private static void people(SupplyBook book, StringBuilder s) {
        for (int i = 0; i < 41; i++) {
            row(s, "head " + i, book.head(i % 3));
        }
        for (int i = 0; i < 17; i++) {
            row(s, "hand " + i, book.hand(i % 3, 1 + i % 9));
        }
        for (int h = 0; h < HANDS; h++) {
            row(s, "sign by " + h, book.sign(OPEN, h));
        }
        Due.law(book, "s(k=4)4");
        row(s, "may", book.may(OPEN));
        row(s, "today", book.now(DAY));
        row(s, "yesterday", book.now(DAY - 1));
    }

    private static void votes(SupplyBook book, StringBuilder s) {
        for (int v = 0; v < AUTHORITIES; v++) {
            for (int w = 0; w < AUTHORITIES; w++) {
                row(s, "move(" + v + ", " + w + ")", book.move(v, w, 1));
                row(s, "cover(" + v + ", " + w + ")", book.cover(v, w));
            }
            row(s, "commit to " + v, book.commit(v, 5, 1, 1));
            row(s, "contract", book.count(5));
        }
        row(s, "move all that may be", book.move(VOTE, CARRY, 4797));
        row(s, "and a penny more", book.move(VOTE, CARRY, 1));
        row(s, "advance all that may be", book.advance(0, 1000));
        row(s, "and a penny more", book.advance(0, 1));
        for (int v = 0; v <= AUTHORITIES; v++) {
            row(s, "strike(" + v + ")", book.strike(v));
            row(s, "ceiling(" + v + ")", book.ceiling(v, 2, 4));
        }
        while (book.count(4) < 79) {
            book.vote(0, 0, 1, 0, 0);
        }
        row(s, "the last", book.vote(2, 0, 7, 1, 0));
        row(s, "one more", book.vote(2, 0, 7, 1, 0));
    }

    private static void payments(SupplyBook book, StringBuilder s) {
        for (int c = 0; c <= CLAIMS; c++) {
            for (int h = 0; h < HANDS; h++) {
                row(s, "sign(" + c + ", " + h + ")", book.sign(c, h));
            }
            row(s, "pay(" + c + ")", book.pay(c));
        }
        row(s, "of the contract", book.pay(book.claim(0, 0, 0, 220, 0, false)));
        row(s, "no more is bound", book.pay(book.claim(0, 0, 0, 1, 0, false)));
        row(s, "of the other", book.pay(book.claim(0, 0, 0, 100, 1, false)));
        for (int v = 0; v < AUTHORITIES; v++) {
            row(s, "left(" + v + ", 1)", book.left(v, 1));
        }
        book.now(720);
        row(s, "close(0)", book.close(0));
        row(s, "close(1)", book.close(1));
        for (int v = AUTHORITIES; v < AUTHORITIES + 4; v++) {
            row(s, "sum of " + v, book.about(v, 2));
        }
    }

    private static void weeks(SupplyBook book, StringBuilder s) {
        for (int week = 0; week < 52; week++) {
            row(s, "came(0, 0, " + week + ")", book.came(0, 0, week));
            row(s, "came(0, 1, " + week + ")", book.came(0, 1, week));
            row(s, "foretold(0, " + week + ")", book.foretold(0, week, 0));
        }
        for (int set = 0; set < 8; set++) {
            row(s, "judge(" + set + ")", book.judge(set));
        }
        row(s, "plan", book.plan());
        row(s, "short", book.shortWeek());
        for (int k = 0; k < 6; k++) {
            row(s, "much of " + k, book.comes(k, 999999990));
            row(s, "six pence of " + k, book.comes(k, 6));
            row(s, "five more", book.comes(k, 5));
            row(s, "four more", book.comes(k, 4));
            row(s, "a penny more", book.comes(k, 1));
        }
        for (int i = 0; i < 7; i++) {
            row(s, "offer " + i, book.offer(1, 3 + i, 2, i));
        }
        for (int i = 0; i < 12; i++) {
            row(s, "ask " + i, book.ask(0, i, i, i % 2 == 0));
        }
        row(s, "cut", book.cut(222));
        row(s, "plan", book.plan());
        row(s, "dues", book.sum(5));
    }

    private static void loans(SupplyBook book, StringBuilder s) {
        row(s, "tender", book.tender(6900, false));
        for (int i = 0; i < 7; i++) {
            for (int what = 0; what < 5; what++) {
                row(s, "loan(" + i + ", " + what + ")", book.loan(i, what));
            }
        }
        for (int i = 0; i < 13; i++) {
            row(s, "bid " + i, book.bid(1, 30 - i));
        }
        row(s, "owed", book.sum(3));
        row(s, "tender", book.tender(1399, false));
        row(s, "loans", book.count(11));
        book.now(3000);
        for (int i = 0; i < 20; i++) {
            row(s, "repay(" + i + ")", book.repay(i));
            row(s, "interest of " + i, book.loan(i, 4));
        }
        row(s, "interest", book.sum(4));
        row(s, "chest", book.sum(0));
    }

    private static void audit(SupplyBook book, StringBuilder s) {
        for (int c = 0; c <= CLAIMS; c++) {
            row(s, "find(" + c + ")", book.find(c, 1));
            row(s, "test(" + c + ")", book.test(c, 3));
            row(s, "answer(" + c + ")", book.answer(c, true));
            row(s, "question(" + c + ")", book.question(c));
            row(s, "answer(" + c + ")", book.answer(c, false));
        }
        for (int what = 0; what < 3; what++) {
            row(s, "found(1, " + what + ")", book.found(1, what));
        }
        row(s, "draw", book.draw(1, 0, 1));
        row(s, "found(1, 1)", book.found(1, 1));
        for (int v = 0; v < AUTHORITIES; v++) {
            row(s, "falls(" + v + ")", book.falls(v));
        }
        for (int h = 0; h < HANDS; h++) {
            row(s, "surcharged(" + h + ")", book.surcharged(h));
        }
        int finds = 0;
        while (finds < 101 && book.find(PAID_BY_ADVANCE, 1)) {
            finds++;
        }
        row(s, "finds", finds);
        row(s, "paid", book.paid(1, 0, 3599));
        book.check(0, 1);
        Due.feedNumbers(book, 0, 0, 360, 1, 4, 360, 2, 5, 361, 10, 8, 362, 6, 0, 367, 7, 0, 367, 8, 0, 367, 0, 0);
        row(s, "check", book.check(1, 7));
    }
}
