import java.util.Arrays;

/**
 * A state's years of money: heads and hands, laws and votes, claims and what lets them be paid, moves, contracts,
 * cuts, taxes, the chest by weeks, loans and an audit. The document (DOC.md) says what each call promises.
 */
public final class SupplyBook {
    /** There is none. */
    public static final int NONE = -1;

    private static final int DAYS = 3600;
    private static final int DAYS_OF_YEAR = 360;
    private static final int YEARS = 10;
    private static final int DAYS_OF_WEEK = 7;
    private static final int WEEKS_OF_YEAR = 52;
    private static final int MOST_PENCE = 1000000000;
    private static final long BILLION = 1000000000L;
    private static final long NOT_LEFT = -1000000000000L;
    private static final int THOUSAND = 1000;
    private static final int HUNDRED = 100;

    private static final int MOST_HEADS = 40;
    private static final int MOST_HANDS = 16;
    private static final int MOST_RANK = 9;
    private static final int MOST_TAPE = 400;
    private static final int FED_INTS = 5;
    private static final int BYTES_OF_INT = 4;
    private static final int MOST_TEXT = 200;
    private static final int MOST_CLAUSES = 16;
    private static final int MOST_LAWS = 20;
    private static final int MOST_AUTHORITIES = 80;
    private static final int MOST_CONTRACTS = 20;
    private static final int MOST_CLAIMS = 300;
    private static final int MOST_KIND = 9;
    private static final int MOST_FINDS = 100;
    private static final int MOST_ITEMS = 14;
    private static final int MOST_WORTH = 1000000;
    private static final int TAXES = 6;
    private static final int PAST_WEEKS = 4;
    private static final int MOST_OFFERS = 9;
    private static final int MOST_BIDS = 12;
    private static final int MOST_RATE = 9999;
    private static final int MOST_LOANS = 30;
    private static final long RATE_DAYS = 3600000L;

    private static final int VOTE = 0;
    private static final int CEILING = 1;
    private static final int CARRY = 2;
    private static final int STANDING = 3;
    private static final int ADVANCE = 4;
    /** The kinds by which claims are paid, in the order in which they are asked. */
    private static final int[] ASKED_KINDS = {VOTE, CARRY, STANDING, ADVANCE};

    private static final String MONEY_LETTERS = "mcbedx";
    private static final String NUMBER_LETTERS = "mcbed";
    private static final int[] USUAL_NUMBERS = {10, 0, 0, 0, 30};
    private static final int MOVED_NUMBER = 0;
    private static final int CARRIED_NUMBER = 1;
    private static final int OWED_NUMBER = 2;
    private static final int ADVANCED_NUMBER = 3;
    private static final int COVERED_NUMBER = 4;

    private static final int BAR_PLACE = 1;
    private static final int BAR_STRUCK = 2;
    private static final int BAR_LEFT = 3;
    private static final int BAR_CEILING = 4;
    private static final int BAR_RULE = 5;
    private static final int BAR_SIGN = 6;
    private static final int BAR_TENDER = 7;
    private static final int BAR_REFUSED = 8;
    private static final int BARRED = -10;
    private static final int CHEST_LACKS = -9;

    private static final int QUESTION_NONE = 0;
    private static final int QUESTION_OPEN = 1;
    private static final int QUESTION_WELL = 2;
    private static final int QUESTION_NOT_WELL = 3;

    private int today = 0;
    private long chest = 0;
    private int nextClosed = 0;
    private final byte[] tape = new byte[MOST_TAPE];
    private int tapeSize = 0;
    private final People people = new People();
    private final Reader reader = new Reader();
    private final Text noWords = new Text(new byte[0], new int[0], new int[0]);
    private final Laws laws = new Laws();
    private final Votes votes = new Votes();
    private final Claims claims = new Claims();
    private final Cuts cuts = new Cuts();
    private final Weeks weeks = new Weeks();
    private final Loans loans = new Loans();

    public SupplyBook() {
    }

    // ---- time, heads, hands and the tape

    public boolean now(int day) {
        if (!isDay(day) || day < today) {
            return false;
        }
        today = day;
        return true;
    }

    public int head(int parent) {
        return people.addHead(parent);
    }

    public int under(int a, int b) {
        if (!people.isHead(a) || !people.isHead(b)) {
            return NONE;
        }
        return people.isUnder(a, b) ? 1 : 0;
    }

    public int hand(int head, int rank) {
        return people.addHand(head, rank);
    }

    public int feed(int a, int b, int c, int d, int e) {
        if (tapeSize + FED_INTS * BYTES_OF_INT > MOST_TAPE) {
            return NONE;
        }
        feedInt(a);
        feedInt(b);
        feedInt(c);
        feedInt(d);
        feedInt(e);
        return tapeSize;
    }

    private void feedInt(int number) {
        for (int i = BYTES_OF_INT - 1; i >= 0 && tapeSize < tape.length; i--) {
            tape[tapeSize] = (byte) (number >> (8 * i));
            tapeSize++;
        }
    }

    /** The int that stands at a place of the tape, places being counted in ints. */
    private int tapeInt(int place) {
        int number = 0;
        for (int i = 0; i < BYTES_OF_INT; i++) {
            int at = place * BYTES_OF_INT + i;
            int next = at >= 0 && at < tape.length ? tape[at] & 255 : 0;
            number = number << 8 | next;
        }
        return number;
    }

    // ---- laws

    public int law(int from, int to, int n) {
        if (!isDay(from) || !isDay(to) || from > to || laws.isFull()) {
            return NONE;
        }
        if (n < 1 || n > MOST_TEXT || n > tapeSize) {
            return NONE;
        }
        int fault = reader.readAll(tape, n, true);
        tapeSize = 0;
        if (fault != 0) {
            return fault;
        }
        return laws.addLaw(reader.textRead(), from, to);
    }

    public int counts(int i, int day) {
        if (!laws.isLaw(i) || !isDay(day)) {
            return NONE;
        }
        laws.weigh(day);
        return Integer.bitCount(laws.countingOf(i));
    }

    public int number(int letter, int day) {
        if (letter < 0 || letter >= USUAL_NUMBERS.length || !isDay(day)) {
            return NONE;
        }
        return laws.numberOn(letter, day);
    }

    // ---- authorities and contracts

    public int vote(int kind, int head, int sum, int year, int n) {
        if (kind != VOTE && kind != CARRY && kind != STANDING) {
            return NONE;
        }
        if (!people.isHead(head) || !isSum(sum) || !isYear(year) || votes.isFull()) {
            return NONE;
        }
        if (n < 0 || n > MOST_TEXT || n > tapeSize) {
            return NONE;
        }
        int fault = n == 0 ? 0 : reader.readAll(tape, n, false);
        tapeSize = 0;
        if (fault != 0) {
            return fault;
        }
        Text words = n == 0 ? noWords : reader.textRead();
        return votes.addAuthority(new Authority(kind, head, sum, year, today, words, NONE));
    }

    public int ceiling(int v, int head, int sum) {
        Authority base = votes.at(v);
        if (base == null || base.kind == CEILING || !isSum(sum) || votes.isFull()) {
            return NONE;
        }
        if (!people.isUnder(head, base.head)) {
            return NONE;
        }
        return votes.addAuthority(new Authority(CEILING, head, sum, base.year, today, noWords, v));
    }

    public int advance(int head, int sum) {
        if (!people.isHead(head) || !isSum(sum) || votes.isFull()) {
            return NONE;
        }
        int year = yearOf(today);
        long most = (long) laws.numberOn(ADVANCED_NUMBER, today) * THOUSAND;
        if (votes.advancesOf(year) + sum > most) {
            return NONE;
        }
        return votes.addAuthority(new Authority(ADVANCE, head, sum, year, today, noWords, NONE));
    }

    public boolean cover(int v, int w) {
        Authority advance = votes.at(v);
        Authority vote = votes.at(w);
        if (advance == null || vote == null || advance.kind != ADVANCE || vote.kind != VOTE) {
            return false;
        }
        if (advance.coveredBy != NONE || vote.struckOn != NONE || vote.year != advance.year) {
            return false;
        }
        int year = advance.year;
        if (!people.isUnder(advance.head, vote.head) || leftOf(w, vote, year) < advance.spentIn(year)) {
            return false;
        }
        vote.spend(year, advance.spentIn(year));
        advance.spend(year, -advance.spentIn(year));
        advance.coveredBy = w;
        advance.coveredOn = today;
        claims.recount(v, w);
        return true;
    }

    public boolean strike(int v) {
        Authority authority = votes.at(v);
        if (authority == null || authority.struckOn != NONE) {
            return false;
        }
        authority.struckOn = today;
        return true;
    }

    public boolean move(int v, int w, int sum) {
        Authority from = votes.at(v);
        Authority to = votes.at(w);
        if (from == null || to == null || v == w || !isSum(sum)) {
            return false;
        }
        int year = yearOf(today);
        if (!from.canMove(year) || !to.canMove(year) || leftOf(v, from, year) < sum) {
            return false;
        }
        long most = (long) from.sum * laws.numberOn(MOVED_NUMBER, today) / HUNDRED;
        if (from.movedFrom + sum > most) {
            return false;
        }
        from.movedFrom += sum;
        to.movedTo += sum;
        return true;
    }

    public int commit(int v, int sum, int from, int to) {
        Authority authority = votes.at(v);
        if (authority == null || !authority.canBind() || votes.contractsAreFull()) {
            return NONE;
        }
        if (!isSum(sum) || !isYear(from) || !isYear(to) || from > to) {
            return NONE;
        }
        for (int year = from; year <= to; year++) {
            if (!votes.isOf(authority, year) || leftOf(v, authority, year) < sum) {
                return NONE;
            }
        }
        return votes.addContract(v, sum, from, to);
    }

    public long left(int v, int year) {
        Authority authority = votes.at(v);
        if (authority == null || !isYear(year) || !votes.isOf(authority, year)) {
            return NOT_LEFT;
        }
        return leftOf(v, authority, year);
    }

    /** LEFT of an authority in a year that it is OF. */
    private long leftOf(int v, Authority authority, int year) {
        if (authority.kind == CEILING) {
            return authority.sum - paidUnderCeiling(authority, year);
        }
        if (authority.coveredBy != NONE) {
            return 0;
        }
        long moved = authority.movedTo - authority.movedFrom;
        return authority.sum + moved - authority.spentIn(year) - votes.boundOf(v, year);
    }

    private long paidUnderCeiling(Authority ceiling, int year) {
        long together = 0;
        for (int c = 0; c < claims.size; c++) {
            Claim claim = claims.at(c);
            if (claim != null && claim.countsBy == ceiling.base && claim.wasPaidIn(year)
                    && people.isUnder(claim.head, ceiling.head)) {
                together += claim.sum;
            }
        }
        return together;
    }

    // ---- claims

    public int claim(int hand, int head, int kind, int sum, int contract, boolean tender) {
        if (!people.isHand(hand) || !people.isUnder(head, people.headOfHand(hand))) {
            return NONE;
        }
        if (kind < 0 || kind > MOST_KIND || !isSum(sum) || sum < 1) {
            return NONE;
        }
        if (contract != NONE && !votes.isContract(contract)) {
            return NONE;
        }
        return claims.addClaim(new Claim(hand, head, kind, sum, contract, tender));
    }

    public boolean sign(int c, int h) {
        Claim claim = claims.at(c);
        if (claim == null || claim.isPaid() || !people.isHand(h) || claim.hand == h) {
            return false;
        }
        if ((claim.signers >> h & 1) != 0 || !people.isUnder(claim.head, people.headOfHand(h))) {
            return false;
        }
        claim.signers |= 1 << h;
        return true;
    }

    public int may(int c) {
        Claim claim = claims.at(c);
        if (claim == null || claim.isPaid()) {
            return NONE;
        }
        return whoLets(claim);
    }

    public int pay(int c) {
        Claim claim = claims.at(c);
        if (claim == null || claim.isPaid()) {
            return NONE;
        }
        int v = whoLets(claim);
        Authority authority = votes.at(v);
        if (authority == null) {
            return v;
        }
        if (chest < claim.sum) {
            return CHEST_LACKS;
        }
        chest -= claim.sum;
        authority.spend(yearOf(today), claim.sum);
        votes.payOfContract(claim.contract, yearOf(today), claim.sum);
        claims.markPaid(c, v, today);
        return v;
    }

    /** The authority that LETS a claim be paid today, or -10 less the greatest bar. */
    private int whoLets(Claim claim) {
        laws.weigh(today);
        tellReader(claim);
        if (claim.contract != NONE) {
            int v = votes.authorityOfContract(claim.contract);
            int bar = barOf(claim, v, votes.at(v));
            return bar == 0 ? v : BARRED - bar;
        }
        int greatest = BAR_PLACE;
        for (int i = 0; i < ASKED_KINDS.length; i++) {
            for (int v = 0; v < votes.size; v++) {
                Authority authority = votes.at(v);
                if (authority == null || authority.kind != ASKED_KINDS[i]) {
                    continue;
                }
                int bar = barOf(claim, v, authority);
                if (bar == 0) {
                    return v;
                }
                greatest = Math.max(greatest, bar);
            }
        }
        return BARRED - greatest;
    }

    private void tellReader(Claim claim) {
        reader.tellClaim(claim, people.headsAbove(claim.head), people.greatestRank(claim.signers));
        reader.tellTime(today % DAYS_OF_YEAR, claims.paidOfHand(claim.hand, yearOf(today)));
    }

    private int barOf(Claim claim, int v, Authority authority) {
        int year = yearOf(today);
        if (authority == null || !people.isUnder(claim.head, authority.head) || !votes.isOf(authority, year)) {
            return BAR_PLACE;
        }
        if (authority.struckOn != NONE || authority.coveredBy != NONE) {
            return BAR_STRUCK;
        }
        long left = leftOf(v, authority, year);
        long free = claim.contract == NONE ? left : votes.boundBy(claim.contract, year);
        if (free < claim.sum) {
            return BAR_LEFT;
        }
        if (isOverCeiling(claim, v, year)) {
            return BAR_CEILING;
        }
        reader.tellLeft(left);
        int bar = reader.barOfText(authority.words, -1);
        for (int i = 0; i < laws.size && bar == 0; i++) {
            bar = reader.barOfText(laws.textOf(i), laws.countingOf(i));
        }
        return bar;
    }

    private boolean isOverCeiling(Claim claim, int v, int year) {
        for (int w = 0; w < votes.size; w++) {
            Authority ceiling = votes.at(w);
            if (ceiling != null && ceiling.kind == CEILING && ceiling.base == v && ceiling.struckOn == NONE
                    && people.isUnder(claim.head, ceiling.head) && leftOf(w, ceiling, year) < claim.sum) {
                return true;
            }
        }
        return false;
    }

    // ---- cuts

    public int ask(int head, int sum, int worth, boolean floor) {
        if (!people.isHead(head) || !isSum(sum) || worth < 0 || worth > MOST_WORTH) {
            return NONE;
        }
        return cuts.addItem(sum, worth, floor);
    }

    public int cut(int total) {
        return isSum(total) ? cuts.bestOf(total) : NONE;
    }

    public long more(int total) {
        return isSum(total) ? cuts.moreThan(total) : NONE;
    }

    // ---- taxes, dues, offers

    public boolean comes(int k, int sum) {
        if (!isTax(k) || !isSum(sum) || !weeks.addTax(k, today, sum)) {
            return false;
        }
        chest += sum;
        return true;
    }

    public long came(int k, int year, int week) {
        if (!isTax(k) || !isYear(year) || !isWeek(week)) {
            return NONE;
        }
        return weeks.arrivedIn(k, year, week);
    }

    public long foretold(int k, int week, int what) {
        if (!isTax(k) || !isWeek(week) || what < 0 || what > 2 || week <= weekOf(today)) {
            return NONE;
        }
        return weeks.foreseen(k, week, what, today);
    }

    public boolean due(int week, int sum) {
        if (!isWeek(week) || !isSum(sum)) {
            return false;
        }
        weeks.addDue(yearOf(today), week, sum);
        return true;
    }

    public int shortWeek() {
        weeks.reckonWorst(chest, today);
        return weeks.firstShort(0, today);
    }

    public int offer(int sum, int week, int span, int cost) {
        if (!isSum(sum) || !isWeek(week) || span < 1 || span >= WEEKS_OF_YEAR || !isSum(cost)) {
            return NONE;
        }
        return weeks.addOffer(sum, week, span, cost);
    }

    public int plan() {
        weeks.reckonWorst(chest, today);
        return weeks.cheapestPlan(today);
    }

    public long judge(int set) {
        if (!weeks.isOfferSet(set)) {
            return NONE;
        }
        weeks.reckonWorst(chest, today);
        int week = weeks.firstShort(set, today);
        return week == NONE ? weeks.costOf(set) : -2L - week;
    }

    // ---- loans

    public int bid(int sum, int rate) {
        if (!isSum(sum) || sum < 1 || rate < 0 || rate > MOST_RATE) {
            return NONE;
        }
        return loans.addBid(sum, rate);
    }

    public int tender(int sum, boolean one) {
        if (!isSum(sum) || sum < 1) {
            return NONE;
        }
        long taken = loans.takeBids(sum);
        long most = (long) laws.numberOn(OWED_NUMBER, today) * THOUSAND;
        if (loans.owed() + taken > most || loans.areTooMany()) {
            return NONE;
        }
        chest += taken;
        return loans.lendTaken(today, one);
    }

    public boolean repay(int i) {
        if (!loans.isLoan(i) || loans.backOn(i) != NONE) {
            return false;
        }
        long interest = loans.interestOn(i, today);
        long whole = loans.sumOf(i) + interest;
        if (chest < whole) {
            return false;
        }
        chest -= whole;
        loans.markBack(i, today, interest);
        return true;
    }

    public long loan(int i, int what) {
        if (!loans.isLoan(i)) {
            return NONE;
        }
        switch (what) {
            case 0: return loans.sumOf(i);
            case 1: return loans.rateOf(i);
            case 2: return loans.madeOn(i);
            case 3: return loans.backOn(i);
            case 4: return loans.interestOn(i, today);
            default: return NONE;
        }
    }

    // ---- audit

    public int draw(int year, int start, int step) {
        if (!isYear(year) || !isSum(start) || !isSum(step) || step < 1 || start >= step) {
            return NONE;
        }
        return claims.drawSome(year, start, step);
    }

    public int drawn(int year, int i) {
        return isYear(year) && i >= 0 ? claims.drawnAt(year, i) : NONE;
    }

    public boolean test(int c, int fault) {
        Claim claim = claims.at(c);
        if (claim == null || !claim.isDrawn || fault < 0 || fault > claim.sum) {
            return false;
        }
        claim.fault = fault;
        return true;
    }

    public long found(int year, int what) {
        if (!isYear(year)) {
            return NONE;
        }
        switch (what) {
            case 0: return claims.faultsOf(year);
            case 1: return claims.spreadFaultsOf(year);
            case 2: return claims.notRightOf(year);
            default: return NONE;
        }
    }

    public boolean question(int c) {
        Claim claim = claims.at(c);
        if (claim == null || !claim.isPaid() || claim.question != QUESTION_NONE) {
            return false;
        }
        claim.question = QUESTION_OPEN;
        return true;
    }

    public boolean answer(int c, boolean well) {
        Claim claim = claims.at(c);
        if (claim == null || claim.question != QUESTION_OPEN) {
            return false;
        }
        claim.question = well ? QUESTION_WELL : QUESTION_NOT_WELL;
        if (!well) {
            people.surcharge(claim);
        }
        return true;
    }

    public long falls(int v) {
        Authority advance = votes.at(v);
        if (advance == null || advance.kind != ADVANCE || advance.fell || !fallsByNow(advance)) {
            return NONE;
        }
        advance.fell = true;
        long together = 0;
        for (int c = 0; c < claims.size; c++) {
            Claim claim = claims.at(c);
            if (claim != null && claim.paidBy == v) {
                together += people.surcharge(claim);
            }
        }
        return together;
    }

    private boolean fallsByNow(Authority advance) {
        int day = advance.toldOn + laws.numberOn(COVERED_NUMBER, advance.toldOn) + 1;
        boolean inTime = advance.coveredBy != NONE && advance.coveredOn < day;
        return today >= day && !inTime;
    }

    public long surcharged(int h) {
        return people.isHand(h) ? people.chargeOf(h) : NONE;
    }

    public boolean find(int c, int sum) {
        Claim claim = claims.at(c);
        if (claim == null || !claim.isPaid() || sum < 1 || sum > claim.sum - claim.wrong) {
            return false;
        }
        return claims.addFind(c, sum, today);
    }

    public long paid(int year, int head, int day) {
        if (!isYear(year) || !people.isHead(head) || !isDay(day)) {
            return NONE;
        }
        long together = 0;
        for (int c = 0; c < claims.size; c++) {
            Claim claim = claims.at(c);
            if (claim != null && claim.wasPaidIn(year) && claim.paidOn <= day && people.isUnder(claim.head, head)) {
                together += claim.sum - claims.knownWrong(c, day);
            }
        }
        return together;
    }

    public int close(int year) {
        if (year != nextClosed || year >= yearOf(today)) {
            return NONE;
        }
        nextClosed++;
        int hundredths = laws.numberOn(CARRIED_NUMBER, year * DAYS_OF_YEAR + DAYS_OF_YEAR - 1);
        int told = votes.size;
        int made = 0;
        for (int v = 0; v < told; v++) {
            Authority carry = votes.at(v);
            if (carry == null || carry.kind != CARRY || carry.year != year || carry.struckOn != NONE) {
                continue;
            }
            long carried = Math.min(leftOf(v, carry, year) * hundredths / HUNDRED, MOST_PENCE);
            if (carried > 0 && !votes.isFull()) {
                votes.addAuthority(
                        new Authority(CARRY, carry.head, (int) carried, year + 1, today, carry.words, NONE));
                made++;
            }
        }
        return made;
    }

    public int check(int year, int n) {
        if (!isYear(year) || n < 0 || (long) n * 3 * BYTES_OF_INT > tapeSize) {
            return -2;
        }
        tapeSize = 0;
        int place = 0;
        for (int i = 0; i < claims.paidSize; i++) {
            int c = claims.paidAt(i);
            Claim claim = claims.at(c);
            if (claim == null || !claim.wasPaidIn(year)) {
                continue;
            }
            if (place >= 3 * n) {
                return 3 * n;
            }
            int wrong = firstWrong(place, c, claim);
            if (wrong != NONE) {
                return wrong;
            }
            place += 3;
        }
        return place == 3 * n ? NONE : place;
    }

    /** The first of the three numbers from a place of the tape on that does not tell the paid claim. */
    private int firstWrong(int place, int c, Claim claim) {
        if (tapeInt(place) != c) {
            return place;
        }
        if (tapeInt(place + 1) != claim.paidBy) {
            return place + 1;
        }
        return tapeInt(place + 2) != claim.paidOn ? place + 2 : NONE;
    }

    // ---- looking

    public int look(int c, int what) {
        Claim claim = claims.at(c);
        if (claim == null) {
            return NONE;
        }
        switch (what) {
            case 0: return claim.hand;
            case 1: return claim.head;
            case 2: return claim.kind;
            case 3: return claim.sum;
            case 4: return claim.contract;
            case 5: return claim.tendered ? 1 : 0;
            case 6: return claim.signers;
            case 7: return claim.paidOn;
            case 8: return claim.countsBy;
            case 9: return claim.question;
            default: return NONE;
        }
    }

    public int about(int v, int what) {
        Authority authority = votes.at(v);
        if (authority == null) {
            return NONE;
        }
        switch (what) {
            case 0: return authority.kind;
            case 1: return authority.head;
            case 2: return authority.sum;
            case 3: return authority.year;
            case 4: return authority.words.clauses();
            case 5: return authority.struckOn;
            case 6: return authority.kind == CEILING ? authority.base : authority.coveredBy;
            case 7: return authority.toldOn;
            default: return NONE;
        }
    }

    public int count(int what) {
        switch (what) {
            case 0: return today;
            case 1: return people.heads;
            case 2: return people.hands;
            case 3: return laws.size;
            case 4: return votes.size;
            case 5: return votes.contracts;
            case 6: return claims.size;
            case 7: return claims.paidSize;
            case 8: return cuts.size;
            case 9: return weeks.offers;
            case 10: return loans.bids;
            case 11: return loans.size;
            case 12: return tapeSize;
            case 13: return nextClosed;
            default: return NONE;
        }
    }

    public long sum(int what) {
        switch (what) {
            case 0: return chest;
            case 1: return weeks.arrivedInAll;
            case 2: return claims.paidInAll;
            case 3: return loans.owed();
            case 4: return loans.interestPaid;
            case 5: return weeks.duesOf(yearOf(today));
            default: return NONE;
        }
    }

    // ---- what numbers can be

    private static boolean isDay(int day) {
        return day >= 0 && day < DAYS;
    }

    private static boolean isYear(int year) {
        return year >= 0 && year < YEARS;
    }

    private static boolean isWeek(int week) {
        return week >= 0 && week < WEEKS_OF_YEAR;
    }

    private static boolean isSum(int sum) {
        return sum >= 0 && sum <= MOST_PENCE;
    }

    private static boolean isTax(int k) {
        return k >= 0 && k < TAXES;
    }

    private static int yearOf(int day) {
        return day / DAYS_OF_YEAR;
    }

    private static int weekOf(int day) {
        return day % DAYS_OF_YEAR / DAYS_OF_WEEK;
    }

    /** Heads in their tree, and hands with what they are surcharged. */
    private static final class People {
        /** For each head the heads that it is UNDER, as bits: so no question has to climb the tree. */
        private final long[] above = new long[MOST_HEADS];
        private int heads = 0;
        private final int[] handHeads = new int[MOST_HANDS];
        private final int[] handRanks = new int[MOST_HANDS];
        private final long[] handCharges = new long[MOST_HANDS];
        private int hands = 0;

        boolean isHead(int h) {
            return h >= 0 && h < heads;
        }

        boolean isHand(int h) {
            return h >= 0 && h < hands;
        }

        boolean isUnder(int a, int b) {
            return isHead(a) && isHead(b) && (above[a] >>> b & 1L) != 0;
        }

        int addHead(int parent) {
            if (heads >= above.length || parent != NONE && !isHead(parent)) {
                return NONE;
            }
            above[heads] = headsAbove(parent) | 1L << heads;
            heads++;
            return heads - 1;
        }

        long headsAbove(int h) {
            return isHead(h) ? above[h] : 0;
        }

        int addHand(int head, int rank) {
            if (!isHead(head) || rank < 1 || rank > MOST_RANK || hands >= handHeads.length) {
                return NONE;
            }
            handHeads[hands] = head;
            handRanks[hands] = rank;
            hands++;
            return hands - 1;
        }

        int headOfHand(int h) {
            return isHand(h) ? handHeads[h] : NONE;
        }

        int greatestRank(int signers) {
            int greatest = 0;
            for (int h = 0; h < hands; h++) {
                if ((signers >> h & 1) != 0) {
                    greatest = Math.max(greatest, handRanks[h]);
                }
            }
            return greatest;
        }

        long chargeOf(int h) {
            return isHand(h) ? handCharges[h] : NONE;
        }

        /** Parts a claim's sum to its hand and its signers: what is surcharged by that, 0 if it was before. */
        long surcharge(Claim claim) {
            int charged = claim.signers | 1 << claim.hand;
            int parts = Integer.bitCount(charged);
            if (claim.isSurcharged || parts == 0) {
                return 0;
            }
            claim.isSurcharged = true;
            int penniesLeft = claim.sum % parts;
            for (int h = 0; h < hands; h++) {
                if ((charged >> h & 1) != 0) {
                    handCharges[h] += claim.sum / parts + (penniesLeft > 0 ? 1 : 0);
                    penniesLeft--;
                }
            }
            return claim.sum;
        }
    }

    /** A text that stands: its bytes, where its clauses start, and the numbers of those that take some. */
    private static final class Text {
        private final byte[] bytes;
        private final int[] starts;
        private final int[] values;

        Text(byte[] bytes, int[] starts, int[] values) {
            this.bytes = bytes;
            this.starts = starts;
            this.values = values;
        }

        int clauses() {
            return starts.length;
        }

        int startOf(int j) {
            return j >= 0 && j < starts.length ? starts[j] : bytes.length;
        }

        int valueOf(int j) {
            return j >= 0 && j < values.length ? values[j] : 0;
        }

        int letterOf(int j) {
            int at = startOf(j);
            return at >= 0 && at < bytes.length ? bytes[at] & 255 : NONE;
        }
    }

    /**
     * Reads texts. The same walk finds the faults of a new text and reckons a condition of one that stands: what is
     * not "live" is only walked over, as it must be behind a part that decides.
     */
    private static final class Reader {
        private static final int END = -1;
        private static final int FAULT_PLACE = 1;
        private static final int FAULT_DIGITS = 2;
        private static final int FAULT_NUMBER = 3;
        private static final int FAULT_CLAUSES = 4;
        private static final int FAULT_DEPTH = 5;
        private static final int FAULT_WORDS = 6;
        private static final int MOST_DIGITS = 6;
        private static final int MOST_NUMBER = 999999;
        private static final int MOST_OPEN = 8;
        private static final String FACT_LETTERS = "ayhkrql";
        private static final int SUM_FACT = 0;
        private static final int DAY_FACT = 1;
        private static final int HEAD_FACT = 2;
        private static final int KIND_FACT = 3;
        private static final int RANK_FACT = 4;
        private static final int PAID_FACT = 5;
        private static final int LEFT_FACT = 6;

        private final int[] starts = new int[MOST_CLAUSES];
        private final int[] values = new int[MOST_CLAUSES];
        private int clauses = 0;
        private byte[] bytes = new byte[0];
        private int at = 0;
        private int end = 0;
        /** The byte that is next; END behind the last one, and when nothing more is to be read. */
        private int sign = END;
        private int fault = 0;
        private int faultAt = 0;
        private boolean isRefused = false;
        private final long[] facts = new long[FACT_LETTERS.length()];
        private long headsAbove = 0;
        private boolean isTendered = false;

        void tellClaim(Claim claim, long above, int rank) {
            headsAbove = above;
            isTendered = claim.tendered;
            facts[SUM_FACT] = claim.sum;
            facts[HEAD_FACT] = claim.head;
            facts[KIND_FACT] = claim.kind;
            facts[RANK_FACT] = rank;
        }

        void tellTime(int dayOfYear, int paidOfHand) {
            facts[DAY_FACT] = dayOfYear;
            facts[PAID_FACT] = paidOfHand;
        }

        void tellLeft(long left) {
            facts[LEFT_FACT] = left;
        }

        /** Reads the first n bytes as a text: 0 if it stands, or -1000 times its fault less its place. */
        int readAll(byte[] row, int n, boolean ofLaw) {
            begin(row, 0, n);
            clauses = 0;
            for (int i = 0; i <= MOST_CLAUSES && fault == 0; i++) {
                readClause(ofLaw);
                if (at >= end) {
                    break;
                }
                expect(';');
            }
            return fault == 0 ? 0 : -THOUSAND * fault - faultAt;
        }

        /** The text that was read last, if it had no fault. */
        Text textRead() {
            int length = Math.max(0, Math.min(end, bytes.length));
            return new Text(Arrays.copyOf(bytes, length), Arrays.copyOf(starts, clauses),
                    Arrays.copyOf(values, clauses));
        }

        /** The first bar of those clauses of a text whose bits are in the mask; 0 if there is none. */
        int barOfText(Text text, int mask) {
            int bar = 0;
            for (int j = 0; text != null && j < text.clauses() && bar == 0; j++) {
                int letter = text.letterOf(j);
                if ((mask >> j & 1) == 0 || !isRule(letter)) {
                    continue;
                }
                begin(text.bytes, text.startOf(j) + 1, text.bytes.length);
                expect('(');
                boolean holds = readCondition(1, true);
                bar = isRefused ? BAR_REFUSED : barOfRule(letter, holds, text.valueOf(j));
            }
            return bar;
        }

        private static boolean isRule(int letter) {
            return letter == 'o' || letter == 'n' || letter == 's' || letter == 't';
        }

        private int barOfRule(int letter, boolean holds, int rank) {
            switch (letter) {
                case 'o': return holds ? 0 : BAR_RULE;
                case 'n': return holds ? BAR_RULE : 0;
                case 's': return holds && facts[RANK_FACT] < rank ? BAR_SIGN : 0;
                case 't': return holds && !isTendered ? BAR_TENDER : 0;
                default: return 0;
            }
        }

        private void begin(byte[] row, int from, int to) {
            bytes = row;
            at = from - 1;
            end = to;
            fault = 0;
            faultAt = 0;
            isRefused = false;
            step();
        }

        private void step() {
            at++;
            sign = at >= 0 && at < end && at < bytes.length ? bytes[at] & 255 : END;
        }

        private boolean isNextOf(String signs) {
            return sign != END && signs.indexOf((char) sign) >= 0;
        }

        private boolean isNextDigit() {
            return sign >= '0' && sign <= '9';
        }

        private void fail(int kind, int place) {
            if (fault == 0 && !isRefused) {
                fault = kind;
                faultAt = place;
                sign = END;
            }
        }

        private void expect(char due) {
            if (sign == due) {
                step();
            } else {
                fail(FAULT_PLACE, at);
            }
        }

        private void readClause(boolean ofLaw) {
            boolean isOfMoney = isNextOf(MONEY_LETTERS);
            if (!isOfMoney && !isRule(sign)) {
                fail(FAULT_PLACE, at);
            } else if (isOfMoney && !ofLaw) {
                fail(FAULT_WORDS, at);
            } else if (clauses >= MOST_CLAUSES) {
                fail(FAULT_CLAUSES, at);
            } else {
                int letter = sign;
                starts[clauses] = at;
                step();
                values[clauses] = isOfMoney ? readMoney(letter) : readRule(letter);
                clauses++;
            }
        }

        /** The number that a clause of money takes; of x both, as one. */
        private int readMoney(int letter) {
            if (letter == 'x') {
                int law = readNumber(MOST_LAWS - 1);
                expect('.');
                return law * MOST_CLAUSES + readNumber(MOST_CLAUSES - 1);
            }
            return readNumber(letter == 'm' || letter == 'c' ? HUNDRED : MOST_NUMBER);
        }

        /** Walks over a rule: the rank that it needs, 0 if it needs none. */
        private int readRule(int letter) {
            expect('(');
            readCondition(1, false);
            expect(')');
            if (letter != 's') {
                return 0;
            }
            int rank = isNextDigit() ? sign - '0' : 0;
            if (rank == 0) {
                fail(FAULT_PLACE, at);
            } else {
                step();
            }
            return rank;
        }

        private int readNumber(int most) {
            int first = at;
            int number = 0;
            int digits = 0;
            for (int i = 0; i < MOST_DIGITS && isNextDigit(); i++) {
                number = number * 10 + (sign - '0');
                digits++;
                step();
            }
            if (digits == 0) {
                fail(FAULT_PLACE, at);
            } else if (isNextDigit()) {
                fail(FAULT_DIGITS, at);
            } else if (number > most) {
                fail(FAULT_NUMBER, first);
            }
            return number;
        }

        private boolean readCondition(int open, boolean live) {
            boolean holds = readPart(open, live);
            for (int i = 0; i < MOST_TEXT && sign == '|'; i++) {
                step();
                boolean asked = live && !holds;
                boolean nextHolds = readPart(open, asked);
                holds = asked ? nextHolds : holds;
            }
            return holds;
        }

        private boolean readPart(int open, boolean live) {
            boolean holds = readPiece(open, live);
            for (int i = 0; i < MOST_TEXT && sign == '&'; i++) {
                step();
                boolean asked = live && holds;
                boolean nextHolds = readPiece(open, asked);
                holds = asked ? nextHolds : holds;
            }
            return holds;
        }

        private boolean readPiece(int open, boolean live) {
            if (sign == '!') {
                return opensOneMore(open) && !readPiece(open + 1, live);
            }
            if (sign == '(') {
                boolean holds = opensOneMore(open) && readCondition(open + 1, live);
                expect(')');
                return holds;
            }
            if (sign == 'u') {
                step();
                return (headsAbove >>> readNumber(MOST_HEADS - 1) & 1L) != 0;
            }
            long left = readExpression(open, live);
            int compared = sign;
            if (!isNextOf("<>=")) {
                fail(FAULT_PLACE, at);
                return false;
            }
            step();
            long right = readExpression(open, live);
            return compared == '<' ? left < right : compared == '>' ? left > right : left == right;
        }

        /** Goes over a sign that opens, unless it is one too many. */
        private boolean opensOneMore(int open) {
            if (open >= MOST_OPEN) {
                fail(FAULT_DEPTH, at);
                return false;
            }
            step();
            return true;
        }

        private long readExpression(int open, boolean live) {
            long value = readTerm(open, live);
            for (int i = 0; i < MOST_TEXT && (sign == '+' || sign == '-'); i++) {
                boolean isAdded = sign == '+';
                step();
                long other = readTerm(open, live);
                value = isAdded ? value + other : value - other;
            }
            return value;
        }

        private long readTerm(int open, boolean live) {
            long value = readFactor(open, live);
            for (int i = 0; i < MOST_TEXT && isNextOf("*/%"); i++) {
                int reckoned = sign;
                step();
                long other = readFactor(open, live);
                if (reckoned == '*') {
                    value = value * other;
                } else if (other != 0) {
                    value = reckoned == '/' ? value / other : value % other;
                } else if (live) {
                    isRefused = true;
                    sign = END;
                }
            }
            return value;
        }

        private long readFactor(int open, boolean live) {
            if (sign == '[') {
                long value = opensOneMore(open) ? readExpression(open + 1, live) : 0;
                expect(']');
                return value;
            }
            if (isNextDigit()) {
                return readNumber(MOST_NUMBER);
            }
            int fact = sign == END ? NONE : FACT_LETTERS.indexOf((char) sign);
            if (fact < 0 || fact >= facts.length) {
                fail(FAULT_PLACE, at);
                return 0;
            }
            step();
            return facts[fact];
        }
    }

    /** Laws, and which of their clauses count on a day. */
    private static final class Laws {
        private final Text[] texts = new Text[MOST_LAWS];
        private final int[] firstDays = new int[MOST_LAWS];
        private final int[] lastDays = new int[MOST_LAWS];
        /** For each law the clauses that count on the day weighed last, as bits. */
        private final int[] counting = new int[MOST_LAWS];
        private int size = 0;

        boolean isFull() {
            return size >= texts.length;
        }

        boolean isLaw(int i) {
            return i >= 0 && i < size;
        }

        int addLaw(Text text, int from, int to) {
            if (isFull()) {
                return NONE;
            }
            texts[size] = text;
            firstDays[size] = from;
            lastDays[size] = to;
            size++;
            return size - 1;
        }

        Text textOf(int i) {
            return isLaw(i) ? texts[i] : null;
        }

        int countingOf(int i) {
            return isLaw(i) ? counting[i] : 0;
        }

        void weigh(int day) {
            for (int i = 0; i < size; i++) {
                Text text = texts[i];
                boolean inForce = text != null && firstDays[i] <= day && day <= lastDays[i];
                counting[i] = inForce ? (1 << text.clauses()) - 1 : 0;
            }
            for (int i = size - 1; i >= 0; i--) {
                strikeLower(i);
            }
        }

        private void strikeLower(int i) {
            Text text = textOf(i);
            if (text == null || counting[i] == 0) {
                return;
            }
            for (int j = 0; j < text.clauses(); j++) {
                if (text.letterOf(j) == 'x' && (counting[i] >> j & 1) != 0) {
                    int lower = text.valueOf(j) / MOST_CLAUSES;
                    if (lower < i && isLaw(lower)) {
                        counting[lower] &= ~(1 << text.valueOf(j) % MOST_CLAUSES);
                    }
                }
            }
        }

        /** THE NUMBER of a letter (by its place among them) on a day. */
        int numberOn(int letter, int day) {
            if (letter < 0 || letter >= USUAL_NUMBERS.length || letter >= NUMBER_LETTERS.length()) {
                return NONE;
            }
            weigh(day);
            char sign = NUMBER_LETTERS.charAt(letter);
            for (int i = size - 1; i >= 0; i--) {
                Text text = textOf(i);
                for (int j = text == null ? -1 : text.clauses() - 1; j >= 0; j--) {
                    if ((counting[i] >> j & 1) != 0 && text.letterOf(j) == sign) {
                        return text.valueOf(j);
                    }
                }
            }
            return USUAL_NUMBERS[letter];
        }
    }

    /** One authority by which claims may be paid, or a ceiling of one. */
    private static final class Authority {
        private final int kind;
        private final int head;
        private final int sum;
        private final int year;
        private final int toldOn;
        private final Text words;
        /** The authority of which it is a ceiling. */
        private final int base;
        private int struckOn = NONE;
        private int coveredBy = NONE;
        private int coveredOn = NONE;
        private boolean fell = false;
        private long movedTo = 0;
        private long movedFrom = 0;
        private final long[] spent = new long[YEARS];

        Authority(int kind, int head, int sum, int year, int toldOn, Text words, int base) {
            this.kind = kind;
            this.head = head;
            this.sum = sum;
            this.year = year;
            this.toldOn = toldOn;
            this.words = words;
            this.base = base;
        }

        boolean canMove(int inYear) {
            return (kind == VOTE || kind == CARRY) && year == inYear && struckOn == NONE;
        }

        boolean canBind() {
            return (kind == VOTE || kind == CARRY || kind == STANDING) && struckOn == NONE;
        }

        long spentIn(int inYear) {
            return isYear(inYear) ? spent[inYear] : 0;
        }

        void spend(int inYear, long pence) {
            if (isYear(inYear)) {
                spent[inYear] += pence;
            }
        }
    }

    /** Authorities, and the contracts that bind them. */
    private static final class Votes {
        private final Authority[] list = new Authority[MOST_AUTHORITIES];
        private int size = 0;
        private final int[] contractAuthorities = new int[MOST_CONTRACTS];
        private final int[] contractSums = new int[MOST_CONTRACTS];
        private final int[] contractFroms = new int[MOST_CONTRACTS];
        private final int[] contractTos = new int[MOST_CONTRACTS];
        private final long[] contractPaid = new long[MOST_CONTRACTS * YEARS];
        private int contracts = 0;

        boolean isFull() {
            return size >= list.length;
        }

        Authority at(int v) {
            return v >= 0 && v < size ? list[v] : null;
        }

        int addAuthority(Authority authority) {
            if (isFull()) {
                return NONE;
            }
            list[size] = authority;
            size++;
            return size - 1;
        }

        /** Whether it is OF a year; a ceiling is OF those of its authority. */
        boolean isOf(Authority authority, int year) {
            Authority base = authority.kind == CEILING ? at(authority.base) : authority;
            boolean isStanding = base != null && base.kind == STANDING;
            return isStanding ? year >= authority.year : year == authority.year;
        }

        long advancesOf(int year) {
            long together = 0;
            for (int v = 0; v < size; v++) {
                Authority authority = at(v);
                if (authority != null && authority.kind == ADVANCE && authority.year == year) {
                    together += authority.sum;
                }
            }
            return together;
        }

        boolean contractsAreFull() {
            return contracts >= contractSums.length;
        }

        boolean isContract(int i) {
            return i >= 0 && i < contracts;
        }

        int addContract(int v, int sum, int from, int to) {
            if (contractsAreFull()) {
                return NONE;
            }
            contractAuthorities[contracts] = v;
            contractSums[contracts] = sum;
            contractFroms[contracts] = from;
            contractTos[contracts] = to;
            contracts++;
            return contracts - 1;
        }

        int authorityOfContract(int i) {
            return isContract(i) ? contractAuthorities[i] : NONE;
        }

        /** BOUND in a year by one contract. */
        long boundBy(int i, int year) {
            if (!isContract(i) || !isYear(year) || year < contractFroms[i] || year > contractTos[i]) {
                return 0;
            }
            return contractSums[i] - contractPaid[i * YEARS + year];
        }

        /** BOUND in a year of one authority. */
        long boundOf(int v, int year) {
            long together = 0;
            for (int i = 0; i < contracts; i++) {
                if (contractAuthorities[i] == v) {
                    together += boundBy(i, year);
                }
            }
            return together;
        }

        void payOfContract(int i, int year, int sum) {
            if (isContract(i) && isYear(year)) {
                contractPaid[i * YEARS + year] += sum;
            }
        }
    }

    /** One claim, with what the audit says of it. */
    private static final class Claim {
        private final int hand;
        private final int head;
        private final int kind;
        private final int sum;
        private final int contract;
        private final boolean tendered;
        private int signers = 0;
        private int paidOn = NONE;
        /** The authority that paid it: an advance stays so when it is covered. */
        private int paidBy = NONE;
        private int countsBy = NONE;
        private int question = QUESTION_NONE;
        private boolean isSurcharged = false;
        private boolean isDrawn = false;
        /** NONE: not tested. */
        private int fault = NONE;
        private long wrong = 0;

        Claim(int hand, int head, int kind, int sum, int contract, boolean tendered) {
            this.hand = hand;
            this.head = head;
            this.kind = kind;
            this.sum = sum;
            this.contract = contract;
            this.tendered = tendered;
        }

        boolean isPaid() {
            return paidOn != NONE;
        }

        boolean wasPaidIn(int year) {
            return isPaid() && yearOf(paidOn) == year;
        }

        boolean isFoundOf(int year) {
            return isDrawn && fault != NONE && wasPaidIn(year);
        }
    }

    /** Claims, the order in which they were paid, what is drawn of them and what was found wrong. */
    private static final class Claims {
        private final Claim[] list = new Claim[MOST_CLAIMS];
        private int size = 0;
        private final int[] paidOrder = new int[MOST_CLAIMS];
        private int paidSize = 0;
        private long paidInAll = 0;
        private final int[] steps = new int[YEARS];
        private final int[] findClaims = new int[MOST_FINDS];
        private final int[] findSums = new int[MOST_FINDS];
        private final int[] findDays = new int[MOST_FINDS];
        private int finds = 0;

        Claim at(int c) {
            return c >= 0 && c < size ? list[c] : null;
        }

        int addClaim(Claim claim) {
            if (size >= list.length) {
                return NONE;
            }
            list[size] = claim;
            size++;
            return size - 1;
        }

        int paidAt(int i) {
            return i >= 0 && i < paidSize ? paidOrder[i] : NONE;
        }

        void markPaid(int c, int v, int day) {
            Claim claim = at(c);
            if (claim == null || paidSize >= paidOrder.length) {
                return;
            }
            claim.paidOn = day;
            claim.paidBy = v;
            claim.countsBy = v;
            paidOrder[paidSize] = c;
            paidSize++;
            paidInAll += claim.sum;
        }

        /** What counts as paid by v counts as paid by w. */
        void recount(int v, int w) {
            for (int c = 0; c < size; c++) {
                Claim claim = at(c);
                if (claim != null && claim.countsBy == v) {
                    claim.countsBy = w;
                }
            }
        }

        int paidOfHand(int hand, int year) {
            int together = 0;
            for (int c = 0; c < size; c++) {
                Claim claim = at(c);
                if (claim != null && claim.hand == hand && claim.wasPaidIn(year)) {
                    together++;
                }
            }
            return together;
        }

        int drawSome(int year, int start, int step) {
            if (!isYear(year) || step < 1) {
                return NONE;
            }
            steps[year] = step;
            long place = start;
            long from = 0;
            int together = 0;
            for (int c = 0; c < size; c++) {
                Claim claim = at(c);
                if (claim == null || !claim.wasPaidIn(year)) {
                    continue;
                }
                long to = from + claim.sum;
                claim.isDrawn = place < to;
                if (claim.isDrawn) {
                    place += (to - place + step - 1) / step * step;
                    together++;
                }
                from = to;
            }
            return together;
        }

        int drawnAt(int year, int i) {
            int place = 0;
            for (int c = 0; c < size; c++) {
                Claim claim = at(c);
                if (claim != null && claim.isDrawn && claim.wasPaidIn(year)) {
                    if (place == i) {
                        return c;
                    }
                    place++;
                }
            }
            return NONE;
        }

        long faultsOf(int year) {
            long together = 0;
            for (int c = 0; c < size; c++) {
                Claim claim = at(c);
                if (claim != null && claim.isFoundOf(year)) {
                    together += claim.fault;
                }
            }
            return together;
        }

        /** Each fault stands for a whole step, unless its claim is as long as one. */
        long spreadFaultsOf(int year) {
            if (!isYear(year)) {
                return NONE;
            }
            long step = steps[year];
            long together = 0;
            for (int c = 0; c < size; c++) {
                Claim claim = at(c);
                if (claim == null || !claim.isFoundOf(year)) {
                    continue;
                }
                boolean isLong = claim.sum >= step || claim.sum < 1;
                together += isLong ? claim.fault : claim.fault * step / claim.sum;
            }
            return together;
        }

        long notRightOf(int year) {
            long together = 0;
            for (int c = 0; c < size; c++) {
                Claim claim = at(c);
                if (claim != null && claim.wasPaidIn(year)) {
                    together += claim.isFoundOf(year) ? claim.fault : claim.sum;
                }
            }
            return together;
        }

        boolean addFind(int c, int sum, int day) {
            Claim claim = at(c);
            if (claim == null || finds >= findClaims.length) {
                return false;
            }
            claim.wrong += sum;
            findClaims[finds] = c;
            findSums[finds] = sum;
            findDays[finds] = day;
            finds++;
            return true;
        }

        long knownWrong(int c, int day) {
            long together = 0;
            for (int i = 0; i < finds; i++) {
                if (findClaims[i] == c && findDays[i] <= day) {
                    together += findSums[i];
                }
            }
            return together;
        }
    }

    /** What is asked, and which of it a total is for. */
    private static final class Cuts {
        private final int[] sums = new int[MOST_ITEMS];
        private final int[] worths = new int[MOST_ITEMS];
        /** At each place the worth of all items ahead of it: what a search can still win. */
        private final long[] worthAhead = new long[MOST_ITEMS + 1];
        private int floors = 0;
        private int size = 0;
        private int bestSet = NONE;
        private long bestSum = 0;
        private long bestWorth = 0;
        private long leastMore = NONE;

        int addItem(int sum, int worth, boolean floor) {
            if (size >= sums.length) {
                return NONE;
            }
            sums[size] = sum;
            worths[size] = worth;
            worthAhead[size + 1] = worthAhead[size] + worth;
            floors |= floor ? 1 << size : 0;
            size++;
            return size - 1;
        }

        int bestOf(int total) {
            bestSet = NONE;
            chooseFrom(size - 1, total, 0, 0, 0);
            return bestSet;
        }

        long moreThan(int total) {
            if (bestOf(total) == NONE) {
                return NONE;
            }
            leastMore = NONE;
            searchMore(size - 1, 0, 0);
            return leastMore == NONE ? 0 : leastMore - total;
        }

        /** Tries item i and those ahead of it, sets of greater bits first: so of like ones the last is the least. */
        private void chooseFrom(int i, long total, long sum, long worth, int set) {
            if (sum > total || i >= sums.length || bestSet != NONE && isWorse(sum, worth + worthAhead[i + 1])) {
                return;
            }
            if (i < 0) {
                bestSet = set;
                bestSum = sum;
                bestWorth = worth;
                return;
            }
            chooseFrom(i - 1, total, sum + sums[i], worth + worths[i], set | 1 << i);
            if ((floors >> i & 1) == 0) {
                chooseFrom(i - 1, total, sum, worth, set);
            }
        }

        private boolean isWorse(long sum, long worth) {
            return worth < bestWorth || worth == bestWorth && sum > bestSum;
        }

        /** Finds the least sum of a set that is worth more than the best one. */
        private void searchMore(int i, long sum, long worth) {
            if (i >= sums.length || worth + worthAhead[i + 1] <= bestWorth || leastMore != NONE && sum >= leastMore) {
                return;
            }
            if (i < 0) {
                leastMore = sum;
                return;
            }
            if ((floors >> i & 1) == 0) {
                searchMore(i - 1, sum, worth);
            }
            searchMore(i - 1, sum + sums[i], worth + worths[i]);
        }
    }

    /** What came of taxes and what is due by weeks, and offers of loans for the plan. */
    private static final class Weeks {
        private final int[] arrived = new int[TAXES * YEARS * WEEKS_OF_YEAR];
        private long arrivedInAll = 0;
        private final long[] dues = new long[YEARS * WEEKS_OF_YEAR];
        private final int[] offerSums = new int[MOST_OFFERS];
        private final int[] offerWeeks = new int[MOST_OFFERS];
        private final int[] offerSpans = new int[MOST_OFFERS];
        private final int[] offerCosts = new int[MOST_OFFERS];
        private int offers = 0;
        /**
         * The chest at each week's end by the worst, as reckoned last: so many billions, and pence beside them. All
         * that is foretold of a year can be more than a long holds.
         */
        private final long[] worstBillions = new long[WEEKS_OF_YEAR];
        private final long[] worstPence = new long[WEEKS_OF_YEAR];
        /** What a set of offers brings and takes in each week. */
        private final long[] flow = new long[WEEKS_OF_YEAR];

        private int placeOf(int k, int year, int week) {
            return (k * YEARS + year) * WEEKS_OF_YEAR + week;
        }

        /** What came in a week; 0 in a year that never was. */
        long arrivedIn(int k, int year, int week) {
            return isTax(k) && isYear(year) && isWeek(week) ? arrived[placeOf(k, year, week)] : 0;
        }

        boolean addTax(int k, int day, int sum) {
            if (!isTax(k) || !isDay(day)) {
                return false;
            }
            int place = placeOf(k, yearOf(day), weekOf(day));
            if ((long) arrived[place] + sum > MOST_PENCE) {
                return false;
            }
            arrived[place] += sum;
            arrivedInAll += sum;
            return true;
        }

        /** FORETOLD (what 0), the least (1) or the greatest (2) of THE SPAN. */
        long foreseen(int k, int week, int what, int day) {
            int year = yearOf(day);
            long base = arrivedIn(k, year - 1, week);
            long before = 0;
            long since = 0;
            long least = 0;
            long greatest = 0;
            for (int w = Math.max(0, weekOf(day) - PAST_WEEKS); w < weekOf(day); w++) {
                long then = arrivedIn(k, year - 1, w);
                if (then > 0) {
                    long alone = base * arrivedIn(k, year, w) / then;
                    least = before == 0 ? alone : Math.min(least, alone);
                    greatest = Math.max(greatest, alone);
                    before += then;
                    since += arrivedIn(k, year, w);
                }
            }
            if (before == 0) {
                return base;
            }
            return what == 0 ? base * since / before : what == 1 ? least : greatest;
        }

        void addDue(int year, int week, int sum) {
            if (isYear(year) && isWeek(week)) {
                dues[year * WEEKS_OF_YEAR + week] += sum;
            }
        }

        private long dueIn(int year, int week) {
            return isYear(year) && isWeek(week) ? dues[year * WEEKS_OF_YEAR + week] : 0;
        }

        long duesOf(int year) {
            long together = 0;
            for (int week = 0; week < WEEKS_OF_YEAR; week++) {
                together += dueIn(year, week);
            }
            return together;
        }

        void reckonWorst(long chest, int day) {
            long billions = 0;
            long pence = chest;
            for (int week = weekOf(day) + 1; week < WEEKS_OF_YEAR; week++) {
                for (int k = 0; k < TAXES; k++) {
                    long least = foreseen(k, week, 1, day);
                    billions += least / BILLION;
                    pence += least % BILLION;
                }
                pence -= dueIn(yearOf(day), week);
                worstBillions[week] = billions;
                worstPence[week] = pence;
            }
        }

        int addOffer(int sum, int week, int span, int cost) {
            if (offers >= offerSums.length) {
                return NONE;
            }
            offerSums[offers] = sum;
            offerWeeks[offers] = week;
            offerSpans[offers] = span;
            offerCosts[offers] = cost;
            offers++;
            return offers - 1;
        }

        boolean isOfferSet(int set) {
            return set >= 0 && set < 1 << offers;
        }

        long costOf(int set) {
            long together = 0;
            for (int i = 0; i < offers; i++) {
                together += (set >> i & 1) != 0 ? offerCosts[i] : 0;
            }
            return together;
        }

        /** The first week behind that of a day that is short by a set of offers, by the worst reckoned last. */
        int firstShort(int set, int day) {
            reckonFlow(set, weekOf(day));
            long brought = 0;
            for (int week = weekOf(day) + 1; week < WEEKS_OF_YEAR; week++) {
                brought += flow[week];
                if (worstBillions[week] + Math.floorDiv(worstPence[week] + brought, BILLION) < 0) {
                    return week;
                }
            }
            return NONE;
        }

        private void reckonFlow(int set, int thisWeek) {
            Arrays.fill(flow, 0);
            for (int i = 0; i < offers; i++) {
                int week = offerWeeks[i];
                if ((set >> i & 1) == 0 || week <= thisWeek || !isWeek(week)) {
                    continue;
                }
                flow[week] += offerSums[i];
                int back = week + offerSpans[i];
                if (isWeek(back)) {
                    flow[back] -= (long) offerSums[i] + offerCosts[i];
                }
            }
        }

        int cheapestPlan(int day) {
            int best = NONE;
            long leastCost = 0;
            for (int set = 0; set < 1 << offers; set++) {
                long cost = costOf(set);
                boolean isBetter = best == NONE || cost < leastCost
                        || cost == leastCost && Integer.bitCount(set) < Integer.bitCount(best);
                if (isBetter && firstShort(set, day) == NONE) {
                    best = set;
                    leastCost = cost;
                }
            }
            return best;
        }
    }

    /** Bids, and the loans that tenders made of them. */
    private static final class Loans {
        private final int[] bidSums = new int[MOST_BIDS];
        private final int[] bidRates = new int[MOST_BIDS];
        private int bids = 0;
        /** The bids that the tender at hand takes, in its order, and how much of each. */
        private final int[] takenBids = new int[MOST_BIDS];
        private final int[] takenSums = new int[MOST_BIDS];
        private int taken = 0;
        private final int[] sums = new int[MOST_LOANS];
        private final int[] rates = new int[MOST_LOANS];
        private final int[] madeDays = new int[MOST_LOANS];
        private final int[] backDays = new int[MOST_LOANS];
        private int size = 0;
        private long interestPaid = 0;

        int addBid(int sum, int rate) {
            if (bids >= bidSums.length) {
                return NONE;
            }
            bidSums[bids] = sum;
            bidRates[bids] = rate;
            bids++;
            return bids - 1;
        }

        /** Notes which bids a tender for a sum takes: how much that is together. */
        long takeBids(int sum) {
            int left = sum;
            int used = 0;
            taken = 0;
            for (int i = 0; i < bids && left > 0; i++) {
                int bid = lowestBid(used);
                if (bid == NONE || taken >= takenBids.length) {
                    break;
                }
                used |= 1 << bid;
                takenBids[taken] = bid;
                takenSums[taken] = Math.min(left, bidSums[bid]);
                left -= takenSums[taken];
                taken++;
            }
            return (long) sum - left;
        }

        private int lowestBid(int used) {
            int lowest = NONE;
            for (int i = 0; i < bids; i++) {
                if ((used >> i & 1) == 0 && (lowest == NONE || bidRates[i] < bidRates[lowest])) {
                    lowest = i;
                }
            }
            return lowest;
        }

        boolean areTooMany() {
            return size + taken > sums.length;
        }

        /** Makes loans of what was taken, and forgets all bids: how many. */
        int lendTaken(int day, boolean onePrice) {
            for (int i = 0; i < taken && size < sums.length; i++) {
                int bid = takenBids[onePrice ? taken - 1 : i];
                sums[size] = takenSums[i];
                rates[size] = bid >= 0 && bid < bids ? bidRates[bid] : 0;
                madeDays[size] = day;
                backDays[size] = NONE;
                size++;
            }
            bids = 0;
            return taken;
        }

        boolean isLoan(int i) {
            return i >= 0 && i < size;
        }

        int sumOf(int i) {
            return isLoan(i) ? sums[i] : NONE;
        }

        int rateOf(int i) {
            return isLoan(i) ? rates[i] : NONE;
        }

        int madeOn(int i) {
            return isLoan(i) ? madeDays[i] : NONE;
        }

        int backOn(int i) {
            return isLoan(i) ? backDays[i] : NONE;
        }

        /** Interest on a day; of a loan that was paid back on the day of that. */
        long interestOn(int i, int day) {
            if (!isLoan(i)) {
                return NONE;
            }
            int last = backDays[i] == NONE ? day : backDays[i];
            return (long) sums[i] * rates[i] * (last - madeDays[i]) / RATE_DAYS;
        }

        void markBack(int i, int day, long interest) {
            if (isLoan(i)) {
                backDays[i] = day;
                interestPaid += interest;
            }
        }

        long owed() {
            long together = 0;
            for (int i = 0; i < size; i++) {
                together += backDays[i] == NONE ? sums[i] : 0;
            }
            return together;
        }
    }
}
