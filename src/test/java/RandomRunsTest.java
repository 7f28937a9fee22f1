import java.math.BigInteger;
import java.util.ArrayList;
import java.util.List;
import java.util.Random;

/**
 * Random runs of up to 512 calls, each answer set against a model that keeps plain lists of what was told and reckons
 * every answer anew from them; its texts are read by a table of states and by cutting strings, not by descent.
 */
public final class RandomRunsTest {
    private static final int RUNS = 2000;
    private static final int NONE = -1;

    // ---- the model

    static final class Words {
        final List<String> clauses = new ArrayList<>();
    }

    static final class Auth {
        int kind, head, sum, year, told, of = NONE, struck = NONE, by = NONE, byDay = NONE;
        boolean fell;
        Words words = new Words();
    }

    static final class Bill {
        int hand, head, kind, sum, contract, day = NONE, payer = NONE, order = NONE, question = 0;
        boolean tender, charged, tested;
        List<Integer> signs = new ArrayList<>();
        int fault;
    }

    static final class Law {
        int from, to;
        Words words;
    }

    static final class Refused extends Exception {
        private static final long serialVersionUID = 1L;
    }

    static final class Model {
        int day = 0;
        long chest = 0;
        int closed = 0;
        StringBuilder tape = new StringBuilder();
        List<Integer> parents = new ArrayList<>();
        List<int[]> hands = new ArrayList<>();
        List<Law> laws = new ArrayList<>();
        List<Auth> auths = new ArrayList<>();
        List<int[]> moves = new ArrayList<>();
        List<int[]> contracts = new ArrayList<>();
        List<Bill> bills = new ArrayList<>();
        List<Integer> payOrder = new ArrayList<>();
        List<int[]> items = new ArrayList<>();
        List<int[]> taxes = new ArrayList<>();
        List<int[]> dues = new ArrayList<>();
        List<int[]> offers = new ArrayList<>();
        List<int[]> bids = new ArrayList<>();
        List<int[]> loans = new ArrayList<>();
        long interest = 0;
        long[] charges = new long[16];
        List<int[]> finds = new ArrayList<>();
        List<List<Integer>> drawn = new ArrayList<>();
        int[] steps = new int[10];

        Model() {
            for (int i = 0; i < 10; i++) {
                drawn.add(new ArrayList<>());
            }
        }

        static boolean in(long x, long a, long b) {
            return a <= x && x <= b;
        }

        static boolean pence(int s) {
            return in(s, 0, 1000000000);
        }

        boolean isHead(int h) {
            return in(h, 0, parents.size() - 1);
        }

        boolean below(int a, int b) {
            return a == b || parents.get(a) != NONE && below(parents.get(a), b);
        }

        int year() {
            return day / 360;
        }

        int week() {
            return day % 360 / 7;
        }

        boolean now(int d) {
            if (!in(d, day, 3599)) {
                return false;
            }
            day = d;
            return true;
        }

        int head(int p) {
            if (parents.size() == 40 || p != NONE && !isHead(p)) {
                return NONE;
            }
            parents.add(p);
            return parents.size() - 1;
        }

        int under(int a, int b) {
            return !isHead(a) || !isHead(b) ? NONE : below(a, b) ? 1 : 0;
        }

        int hand(int h, int r) {
            if (!isHead(h) || !in(r, 1, 9) || hands.size() == 16) {
                return NONE;
            }
            hands.add(new int[] {h, r});
            return hands.size() - 1;
        }

        int feed(int a, int b, int c, int d, int e) {
            if (tape.length() > 380) {
                return NONE;
            }
            for (int x : new int[] {a, b, c, d, e}) {
                tape.append((char) (x >>> 24)).append((char) (x >>> 16 & 255)).append((char) (x >>> 8 & 255))
                        .append((char) (x & 255));
            }
            return tape.length();
        }

        int law(int from, int to, int n) {
            if (!in(from, 0, 3599) || !in(to, from, 3599) || !in(n, 1, 200) || n > tape.length() || laws.size() == 20) {
                return NONE;
            }
            String text = tape.substring(0, n);
            tape.setLength(0);
            int fault = faultOf(text, true);
            if (fault != 0) {
                return fault;
            }
            Law law = new Law();
            law.from = from;
            law.to = to;
            law.words = words(text);
            laws.add(law);
            return laws.size() - 1;
        }

        static Words words(String text) {
            Words w = new Words();
            for (String s : text.split(";")) {
                w.clauses.add(s);
            }
            return w;
        }

        boolean[][] counting(int d) {
            boolean[][] struck = new boolean[20][16];
            boolean[][] counts = new boolean[20][16];
            for (int i = laws.size() - 1; i >= 0; i--) {
                Law law = laws.get(i);
                if (d < law.from || d > law.to) {
                    continue;
                }
                for (int j = 0; j < law.words.clauses.size(); j++) {
                    String s = law.words.clauses.get(j);
                    if (struck[i][j]) {
                        continue;
                    }
                    counts[i][j] = true;
                    if (s.charAt(0) == 'x') {
                        int dot = s.indexOf('.');
                        int l = Integer.parseInt(s.substring(1, dot));
                        if (l < i) {
                            struck[l][Integer.parseInt(s.substring(dot + 1))] = true;
                        }
                    }
                }
            }
            return counts;
        }

        int counts(int i, int d) {
            if (!in(i, 0, laws.size() - 1) || !in(d, 0, 3599)) {
                return NONE;
            }
            int n = 0;
            for (boolean b : counting(d)[i]) {
                n += b ? 1 : 0;
            }
            return n;
        }

        int number(int letter, int d) {
            if (!in(letter, 0, 4) || !in(d, 0, 3599)) {
                return NONE;
            }
            int found = new int[] {10, 0, 0, 0, 30}[letter];
            boolean[][] counts = counting(d);
            for (int i = 0; i < laws.size(); i++) {
                for (int j = 0; j < laws.get(i).words.clauses.size(); j++) {
                    String s = laws.get(i).words.clauses.get(j);
                    if (counts[i][j] && s.charAt(0) == "mcbed".charAt(letter)) {
                        found = Integer.parseInt(s.substring(1));
                    }
                }
            }
            return found;
        }

        int add(int kind, int head, int sum, int year, int of) {
            Auth a = new Auth();
            a.kind = kind;
            a.head = head;
            a.sum = sum;
            a.year = year;
            a.told = day;
            a.of = of;
            auths.add(a);
            return auths.size() - 1;
        }

        int vote(int kind, int head, int sum, int year, int n) {
            if (!in(kind, 0, 3) || kind == 1 || !isHead(head) || !pence(sum) || !in(year, 0, 9) || !in(n, 0, 200)
                    || n > tape.length() || auths.size() == 80) {
                return NONE;
            }
            String text = tape.substring(0, n);
            tape.setLength(0);
            int fault = n == 0 ? 0 : faultOf(text, false);
            if (fault != 0) {
                return fault;
            }
            int v = add(kind, head, sum, year, NONE);
            if (n > 0) {
                auths.get(v).words = words(text);
            }
            return v;
        }

        Auth auth(int v) {
            return in(v, 0, auths.size() - 1) ? auths.get(v) : null;
        }

        int ceiling(int v, int head, int sum) {
            Auth a = auth(v);
            if (a == null || a.kind == 1 || !isHead(head) || !below(head, a.head) || !pence(sum) || auths.size() == 80) {
                return NONE;
            }
            return add(1, head, sum, a.year, v);
        }

        int advance(int head, int sum) {
            if (!isHead(head) || !pence(sum) || auths.size() == 80) {
                return NONE;
            }
            long all = sum;
            for (Auth a : auths) {
                all += a.kind == 4 && a.year == year() ? a.sum : 0;
            }
            return all > number(3, day) * 1000L ? NONE : add(4, head, sum, year(), NONE);
        }

        boolean of(int v, int y) {
            Auth a = auths.get(v);
            if (a.kind == 1) {
                return of(a.of, y);
            }
            return a.kind == 3 ? y >= a.year : y == a.year;
        }

        /** The authority by which a bill counts as paid. */
        int countsBy(Bill b) {
            return b.payer != NONE && auths.get(b.payer).by != NONE ? auths.get(b.payer).by : b.payer;
        }

        boolean paidIn(Bill b, int y) {
            return b.day != NONE && b.day / 360 == y;
        }

        long bound(int k, int y) {
            int[] c = contracts.get(k);
            if (!in(y, c[2], c[3])) {
                return 0;
            }
            long s = c[1];
            for (Bill b : bills) {
                s -= b.contract == k && paidIn(b, y) ? b.sum : 0;
            }
            return s;
        }

        long left(int v, int y) {
            if (auth(v) == null || !in(y, 0, 9) || !of(v, y)) {
                return -1000000000000L;
            }
            Auth a = auths.get(v);
            long s = a.sum;
            if (a.kind == 1) {
                for (Bill b : bills) {
                    s -= paidIn(b, y) && countsBy(b) == a.of && below(b.head, a.head) ? b.sum : 0;
                }
                return s;
            }
            if (a.by != NONE) {
                return 0;
            }
            for (int[] m : moves) {
                if (m[3] == y) {
                    s += m[1] == v ? m[2] : 0;
                    s -= m[0] == v ? m[2] : 0;
                }
            }
            for (Bill b : bills) {
                s -= paidIn(b, y) && countsBy(b) == v ? b.sum : 0;
            }
            for (int k = 0; k < contracts.size(); k++) {
                s -= contracts.get(k)[0] == v ? bound(k, y) : 0;
            }
            return s;
        }

        boolean cover(int v, int w) {
            Auth a = auth(v);
            Auth b = auth(w);
            if (a == null || b == null || a.kind != 4 || b.kind != 0 || a.by != NONE || b.struck != NONE
                    || !of(w, a.year) || !below(a.head, b.head)) {
                return false;
            }
            long s = 0;
            for (Bill c : bills) {
                s += c.payer == v ? c.sum : 0;
            }
            if (left(w, a.year) < s) {
                return false;
            }
            a.by = w;
            a.byDay = day;
            return true;
        }

        boolean strike(int v) {
            if (auth(v) == null || auth(v).struck != NONE) {
                return false;
            }
            auth(v).struck = day;
            return true;
        }

        boolean move(int v, int w, int sum) {
            Auth a = auth(v);
            Auth b = auth(w);
            if (a == null || b == null || v == w || !pence(sum) || a.kind != 0 && a.kind != 2
                    || b.kind != 0 && b.kind != 2 || !of(v, year()) || !of(w, year()) || a.struck != NONE
                    || b.struck != NONE || left(v, year()) < sum) {
                return false;
            }
            long all = sum;
            for (int[] m : moves) {
                all += m[0] == v ? m[2] : 0;
            }
            if (all > (long) a.sum * number(0, day) / 100) {
                return false;
            }
            moves.add(new int[] {v, w, sum, year()});
            return true;
        }

        int commit(int v, int sum, int from, int to) {
            Auth a = auth(v);
            if (a == null || a.kind == 1 || a.kind == 4 || a.struck != NONE || !pence(sum) || !in(from, 0, 9)
                    || !in(to, from, 9) || contracts.size() == 20) {
                return NONE;
            }
            for (int y = from; y <= to; y++) {
                if (left(v, y) < sum) {
                    return NONE;
                }
            }
            contracts.add(new int[] {v, sum, from, to});
            return contracts.size() - 1;
        }

        int claim(int hand, int head, int kind, int sum, int contract, boolean tender) {
            if (!in(hand, 0, hands.size() - 1) || !isHead(head) || !in(kind, 0, 9) || !pence(sum) || sum == 0
                    || contract != NONE && !in(contract, 0, contracts.size() - 1)
                    || !below(head, hands.get(hand)[0]) || bills.size() == 300) {
                return NONE;
            }
            Bill b = new Bill();
            b.hand = hand;
            b.head = head;
            b.kind = kind;
            b.sum = sum;
            b.contract = contract;
            b.tender = tender;
            bills.add(b);
            return bills.size() - 1;
        }

        Bill bill(int c) {
            return in(c, 0, bills.size() - 1) ? bills.get(c) : null;
        }

        boolean sign(int c, int h) {
            Bill b = bill(c);
            if (b == null || !in(h, 0, hands.size() - 1) || b.hand == h || b.signs.contains(h)
                    || !below(b.head, hands.get(h)[0]) || b.day != NONE) {
                return false;
            }
            b.signs.add(h);
            return true;
        }

        int rank(Bill b) {
            int r = 0;
            for (int h : b.signs) {
                r = Math.max(r, hands.get(h)[1]);
            }
            return r;
        }

        int may(int c) {
            Bill b = bill(c);
            if (b == null || b.day != NONE) {
                return NONE;
            }
            int greatest = 0;
            for (int kind : new int[] {0, 2, 3, 4}) {
                for (int v = 0; v < auths.size(); v++) {
                    boolean asked = b.contract == NONE ? auths.get(v).kind == kind
                            : auths.get(v).kind == kind && contracts.get(b.contract)[0] == v;
                    if (asked) {
                        int bar = bar(b, v);
                        if (bar == 0) {
                            return v;
                        }
                        greatest = Math.max(bar, greatest);
                    }
                }
            }
            return -10 - (greatest == 0 ? 1 : greatest);
        }

        int bar(Bill b, int v) {
            Auth a = auths.get(v);
            if (!below(b.head, a.head) || !of(v, year())) {
                return 1;
            }
            if (a.struck != NONE || a.by != NONE) {
                return 2;
            }
            if ((b.contract == NONE ? left(v, year()) : bound(b.contract, year())) < b.sum) {
                return 3;
            }
            for (int w = 0; w < auths.size(); w++) {
                Auth l = auths.get(w);
                if (l.kind == 1 && l.of == v && l.struck == NONE && of(w, year()) && below(b.head, l.head)
                        && left(w, year()) < b.sum) {
                    return 4;
                }
            }
            for (String s : a.words.clauses) {
                int bar = barBy(s, b, v);
                if (bar != 0) {
                    return bar;
                }
            }
            boolean[][] counts = counting(day);
            for (int i = 0; i < laws.size(); i++) {
                for (int j = 0; j < laws.get(i).words.clauses.size(); j++) {
                    int bar = counts[i][j] ? barBy(laws.get(i).words.clauses.get(j), b, v) : 0;
                    if (bar != 0) {
                        return bar;
                    }
                }
            }
            return 0;
        }

        int barBy(String s, Bill b, int v) {
            char letter = s.charAt(0);
            if ("onst".indexOf(letter) < 0) {
                return 0;
            }
            int close = s.lastIndexOf(')');
            boolean holds;
            try {
                holds = condition(s.substring(2, close), b, v);
            } catch (Refused r) {
                return 8;
            }
            if (letter == 'o') {
                return holds ? 0 : 5;
            }
            if (!holds) {
                return 0;
            }
            if (letter == 'n') {
                return 5;
            }
            if (letter == 's') {
                return rank(b) >= s.charAt(close + 1) - '0' ? 0 : 6;
            }
            return b.tender ? 0 : 7;
        }

        /** Cuts a string at signs that stand in no bracket: each piece, with the sign ahead of it. */
        static List<String> cutAt(String s, String signs) {
            List<String> all = new ArrayList<>();
            int depth = 0;
            StringBuilder one = new StringBuilder(" ");
            for (char c : s.toCharArray()) {
                depth += c == '(' || c == '[' ? 1 : c == ')' || c == ']' ? -1 : 0;
                if (depth == 0 && signs.indexOf(c) >= 0) {
                    all.add(one.toString());
                    one.setLength(0);
                }
                one.append(c);
            }
            all.add(one.toString());
            return all;
        }

        boolean condition(String s, Bill b, int v) throws Refused {
            for (String part : cutAt(s, "|")) {
                boolean all = true;
                for (String piece : cutAt(part.substring(1), "&")) {
                    if (!piece(piece.substring(1), b, v)) {
                        all = false;
                        break;
                    }
                }
                if (all) {
                    return true;
                }
            }
            return false;
        }

        boolean piece(String s, Bill b, int v) throws Refused {
            if (s.charAt(0) == '!') {
                return !piece(s.substring(1), b, v);
            }
            if (s.charAt(0) == '(') {
                return condition(s.substring(1, s.length() - 1), b, v);
            }
            if (s.charAt(0) == 'u') {
                int h = Integer.parseInt(s.substring(1));
                return isHead(h) && below(b.head, h);
            }
            List<String> two = cutAt(s, "<>=");
            long x = value(two.get(0).substring(1), b, v);
            long y = value(two.get(1).substring(1), b, v);
            char c = two.get(1).charAt(0);
            return c == '<' ? x < y : c == '>' ? x > y : x == y;
        }

        long value(String s, Bill b, int v) throws Refused {
            List<String> terms = cutAt(s, "+-");
            if (terms.size() > 1) {
                long all = 0;
                for (String t : terms) {
                    long x = value(t.substring(1), b, v);
                    all = t.charAt(0) == '-' ? all - x : all + x;
                }
                return all;
            }
            List<String> factors = cutAt(s, "*/%");
            if (factors.size() > 1) {
                long all = value(factors.get(0).substring(1), b, v);
                for (String f : factors.subList(1, factors.size())) {
                    long x = value(f.substring(1), b, v);
                    if (x == 0 && f.charAt(0) != '*') {
                        throw new Refused();
                    }
                    all = f.charAt(0) == '*' ? all * x : f.charAt(0) == '/' ? all / x : all % x;
                }
                return all;
            }
            if (s.charAt(0) == '[') {
                return value(s.substring(1, s.length() - 1), b, v);
            }
            switch (s.charAt(0)) {
                case 'a': return b.sum;
                case 'y': return day % 360;
                case 'h': return b.head;
                case 'k': return b.kind;
                case 'r': return rank(b);
                case 'l': return left(v, year());
                case 'q':
                    int n = 0;
                    for (Bill o : bills) {
                        n += o.hand == b.hand && paidIn(o, year()) ? 1 : 0;
                    }
                    return n;
                default: return Long.parseLong(s);
            }
        }

        int pay(int c) {
            int v = may(c);
            if (v < 0) {
                return v;
            }
            Bill b = bill(c);
            if (chest < b.sum) {
                return -9;
            }
            chest -= b.sum;
            b.day = day;
            b.payer = v;
            payOrder.add(c);
            return v;
        }

        int ask(int head, int sum, int worth, boolean floor) {
            if (!isHead(head) || !pence(sum) || !in(worth, 0, 1000000) || items.size() == 14) {
                return NONE;
            }
            items.add(new int[] {sum, worth, floor ? 1 : 0});
            return items.size() - 1;
        }

        /** Sum and worth of a set; null if a floor is not in it. */
        long[] weigh(int set) {
            long s = 0;
            long w = 0;
            for (int i = 0; i < items.size(); i++) {
                if ((set >> i & 1) == 1) {
                    s += items.get(i)[0];
                    w += items.get(i)[1];
                } else if (items.get(i)[2] == 1) {
                    return null;
                }
            }
            return new long[] {s, w};
        }

        int cut(int total) {
            if (!pence(total)) {
                return NONE;
            }
            int best = NONE;
            for (int set = 0; set < 1 << items.size(); set++) {
                long[] x = weigh(set);
                if (x == null || x[0] > total) {
                    continue;
                }
                long[] y = best == NONE ? null : weigh(best);
                if (y == null || x[1] > y[1] || x[1] == y[1] && x[0] < y[0]) {
                    best = set;
                }
            }
            return best;
        }

        long more(int total) {
            int best = cut(total);
            if (best == NONE) {
                return NONE;
            }
            long least = 0;
            for (int set = 0; set < 1 << items.size(); set++) {
                long[] x = weigh(set);
                if (x != null && x[1] > weigh(best)[1] && (least == 0 || x[0] - total < least)) {
                    least = x[0] - total;
                }
            }
            return least;
        }

        boolean comes(int k, int sum) {
            if (!in(k, 0, 5) || !pence(sum) || came(k, year(), week()) + sum > 1000000000) {
                return false;
            }
            taxes.add(new int[] {k, sum, day});
            chest += sum;
            return true;
        }

        long came(int k, int y, int w) {
            if (!in(k, 0, 5) || !in(y, 0, 9) || !in(w, 0, 51)) {
                return NONE;
            }
            long s = 0;
            for (int[] t : taxes) {
                s += t[0] == k && t[2] / 360 == y && t[2] % 360 / 7 == w ? t[1] : 0;
            }
            return s;
        }

        long foretold(int k, int w, int what) {
            if (!in(k, 0, 5) || !in(w, week() + 1, 51) || !in(what, 0, 2)) {
                return NONE;
            }
            if (year() == 0) {
                return 0;
            }
            long base = came(k, year() - 1, w);
            List<Integer> past = new ArrayList<>();
            for (int p = week() - 4; p < week(); p++) {
                if (p >= 0 && came(k, year() - 1, p) > 0) {
                    past.add(p);
                }
            }
            if (past.isEmpty()) {
                return base;
            }
            long x = 0;
            long y = 0;
            List<Long> alone = new ArrayList<>();
            for (int p : past) {
                x += came(k, year(), p);
                y += came(k, year() - 1, p);
                alone.add(Math.floorDiv(base * came(k, year(), p), came(k, year() - 1, p)));
            }
            alone.sort(null);
            return what == 0 ? Math.floorDiv(base * x, y) : alone.get(what == 1 ? 0 : alone.size() - 1);
        }

        boolean due(int w, int sum) {
            if (!in(w, 0, 51) || !pence(sum)) {
                return false;
            }
            dues.add(new int[] {year(), w, sum});
            return true;
        }

        BigInteger worst(int at) {
            BigInteger s = BigInteger.valueOf(chest);
            for (int w = week() + 1; w <= at; w++) {
                for (int k = 0; k < 6; k++) {
                    s = s.add(BigInteger.valueOf(foretold(k, w, 1)));
                }
                for (int[] d : dues) {
                    s = s.subtract(BigInteger.valueOf(d[0] == year() && d[1] == w ? d[2] : 0));
                }
            }
            return s;
        }

        BigInteger[] worstRow() {
            BigInteger[] row = new BigInteger[52];
            for (int w = week() + 1; w < 52; w++) {
                row[w] = worst(w);
            }
            return row;
        }

        int shortBy(int set, BigInteger[] row) {
            for (int w = week() + 1; w < 52; w++) {
                long s = 0;
                for (int i = 0; i < offers.size(); i++) {
                    int[] o = offers.get(i);
                    if ((set >> i & 1) == 1 && o[1] > week() && o[1] <= w) {
                        s += o[0];
                        s -= o[1] + o[2] <= w ? (long) o[0] + o[3] : 0;
                    }
                }
                if (row[w].add(BigInteger.valueOf(s)).signum() < 0) {
                    return w;
                }
            }
            return NONE;
        }

        int shortWeek() {
            return shortBy(0, worstRow());
        }

        int offer(int sum, int w, int ws, int cost) {
            if (!pence(sum) || !in(w, 0, 51) || !in(ws, 1, 51) || !pence(cost) || offers.size() == 9) {
                return NONE;
            }
            offers.add(new int[] {sum, w, ws, cost});
            return offers.size() - 1;
        }

        long cost(int set) {
            long s = 0;
            for (int i = 0; i < offers.size(); i++) {
                s += (set >> i & 1) == 1 ? offers.get(i)[3] : 0;
            }
            return s;
        }

        int plan() {
            int best = NONE;
            BigInteger[] row = worstRow();
            for (int set = (1 << offers.size()) - 1; set >= 0; set--) {
                if (shortBy(set, row) != NONE) {
                    continue;
                }
                if (best == NONE || cost(set) < cost(best)
                        || cost(set) == cost(best) && Integer.bitCount(set) <= Integer.bitCount(best)) {
                    best = set;
                }
            }
            return best;
        }

        long judge(int set) {
            if (!in(set, 0, (1 << offers.size()) - 1)) {
                return NONE;
            }
            int w = shortBy(set, worstRow());
            return w == NONE ? cost(set) : -2 - w;
        }

        int bid(int sum, int rate) {
            if (!pence(sum) || sum == 0 || !in(rate, 0, 9999) || bids.size() == 12) {
                return NONE;
            }
            bids.add(new int[] {sum, rate});
            return bids.size() - 1;
        }

        int tender(int sum, boolean one) {
            if (!pence(sum) || sum == 0) {
                return NONE;
            }
            List<int[]> row = new ArrayList<>(bids);
            row.sort((x, y) -> Integer.compare(x[1], y[1]));
            List<int[]> made = new ArrayList<>();
            int left = sum;
            for (int[] b : row) {
                int take = Math.min(left, b[0]);
                if (take > 0) {
                    made.add(new int[] {take, b[1], day, NONE});
                }
                left -= take;
            }
            if (sum(3) + sum - left > number(2, day) * 1000L || loans.size() + made.size() > 30) {
                return NONE;
            }
            for (int[] m : made) {
                m[1] = one ? made.get(made.size() - 1)[1] : m[1];
            }
            loans.addAll(made);
            bids.clear();
            chest += sum - left;
            return made.size();
        }

        boolean repay(int i) {
            if (!in(i, 0, loans.size() - 1) || loans.get(i)[3] != NONE || chest < loans.get(i)[0] + loan(i, 4)) {
                return false;
            }
            chest -= loans.get(i)[0] + loan(i, 4);
            interest += loan(i, 4);
            loans.get(i)[3] = day;
            return true;
        }

        long loan(int i, int what) {
            if (!in(i, 0, loans.size() - 1) || !in(what, 0, 4)) {
                return NONE;
            }
            int[] l = loans.get(i);
            int till = l[3] == NONE ? day : l[3];
            return what < 4 ? l[what] : (long) l[0] * l[1] * (till - l[2]) / 3600000;
        }

        int draw(int y, int start, int step) {
            if (!in(y, 0, 9) || !pence(step) || !in(start, 0, step - 1)) {
                return NONE;
            }
            List<Integer> row = new ArrayList<>();
            long from = 0;
            for (int c = 0; c < bills.size(); c++) {
                if (paidIn(bills.get(c), y)) {
                    long to = from + bills.get(c).sum;
                    // places below x: those of START + n STEP with n from 0 on
                    long below = from <= start ? 0 : (from - start + step - 1) / step;
                    long belowTo = to <= start ? 0 : (to - start + step - 1) / step;
                    if (belowTo > below) {
                        row.add(c);
                    }
                    from = to;
                }
            }
            drawn.set(y, row);
            steps[y] = step;
            return row.size();
        }

        int drawn(int y, int i) {
            return in(y, 0, 9) && in(i, 0, drawn.get(y).size() - 1) ? drawn.get(y).get(i) : NONE;
        }

        boolean test(int c, int fault) {
            Bill b = bill(c);
            if (b == null || b.day == NONE || !drawn.get(b.day / 360).contains(c) || !in(fault, 0, b.sum)) {
                return false;
            }
            b.tested = true;
            b.fault = fault;
            return true;
        }

        long found(int y, int what) {
            if (!in(y, 0, 9) || !in(what, 0, 2)) {
                return NONE;
            }
            long s = 0;
            if (what == 2) {
                for (Bill b : bills) {
                    s += paidIn(b, y) ? b.sum : 0;
                }
            }
            for (int c : drawn.get(y)) {
                Bill b = bills.get(c);
                if (b.tested) {
                    s += what == 0 ? b.fault : what == 2 ? b.fault - b.sum
                            : b.sum >= steps[y] ? b.fault : (long) b.fault * steps[y] / b.sum;
                }
            }
            return s;
        }

        boolean question(int c) {
            Bill b = bill(c);
            if (b == null || b.day == NONE || b.question != 0) {
                return false;
            }
            b.question = 1;
            return true;
        }

        boolean answer(int c, boolean well) {
            Bill b = bill(c);
            if (b == null || b.question != 1) {
                return false;
            }
            b.question = well ? 2 : 3;
            if (!well) {
                charge(b);
            }
            return true;
        }

        long charge(Bill b) {
            if (b.charged) {
                return 0;
            }
            b.charged = true;
            List<Integer> who = new ArrayList<>(b.signs);
            who.add(b.hand);
            who.sort(null);
            for (int i = 0; i < who.size(); i++) {
                charges[who.get(i)] += b.sum / who.size() + (i < b.sum % who.size() ? 1 : 0);
            }
            return b.sum;
        }

        long falls(int v) {
            Auth a = auth(v);
            if (a == null || a.kind != 4 || a.fell) {
                return NONE;
            }
            int d = a.told + number(4, a.told);
            if (day <= d || a.by != NONE && a.byDay <= d) {
                return NONE;
            }
            a.fell = true;
            long s = 0;
            for (Bill b : bills) {
                s += b.payer == v ? charge(b) : 0;
            }
            return s;
        }

        long surcharged(int h) {
            return in(h, 0, hands.size() - 1) ? charges[h] : NONE;
        }

        boolean find(int c, int sum) {
            Bill b = bill(c);
            if (b == null || b.day == NONE || !pence(sum) || sum == 0 || finds.size() == 100) {
                return false;
            }
            long all = sum;
            for (int[] f : finds) {
                all += f[0] == c ? f[1] : 0;
            }
            if (all > b.sum) {
                return false;
            }
            finds.add(new int[] {c, sum, day});
            return true;
        }

        long paid(int y, int head, int d) {
            if (!in(y, 0, 9) || !isHead(head) || !in(d, 0, 3599)) {
                return NONE;
            }
            long s = 0;
            for (int c = 0; c < bills.size(); c++) {
                Bill b = bills.get(c);
                if (paidIn(b, y) && b.day <= d && below(b.head, head)) {
                    s += b.sum;
                    for (int[] f : finds) {
                        s -= f[0] == c && f[2] <= d ? f[1] : 0;
                    }
                }
            }
            return s;
        }

        int close(int y) {
            if (y != closed || y >= year()) {
                return NONE;
            }
            closed = y + 1;
            int c = number(1, y * 360 + 359);
            int made = 0;
            int all = auths.size();
            for (int v = 0; v < all; v++) {
                Auth a = auths.get(v);
                if (a.kind == 2 && a.year == y && a.struck == NONE) {
                    long s = Math.min(1000000000, left(v, y) * c / 100);
                    if (s > 0 && auths.size() < 80) {
                        auths.get(add(2, a.head, (int) s, y + 1, NONE)).words = a.words;
                        made++;
                    }
                }
            }
            return made;
        }

        int check(int y, int n) {
            if (!in(y, 0, 9) || !in(n, 0, tape.length() / 12)) {
                return -2;
            }
            List<Integer> told = new ArrayList<>();
            for (int i = 0; i < 3 * n; i++) {
                told.add(tape.charAt(4 * i) << 24 | tape.charAt(4 * i + 1) << 16 | tape.charAt(4 * i + 2) << 8
                        | tape.charAt(4 * i + 3));
            }
            tape.setLength(0);
            List<Integer> right = triples(y);
            for (int i = 0; i < told.size(); i++) {
                if (i >= right.size() || !told.get(i).equals(right.get(i))) {
                    return i;
                }
            }
            return told.size() < right.size() ? 3 * n : NONE;
        }

        List<Integer> triples(int y) {
            List<Integer> right = new ArrayList<>();
            for (int c : payOrder) {
                if (paidIn(bills.get(c), y)) {
                    right.add(c);
                    right.add(bills.get(c).payer);
                    right.add(bills.get(c).day);
                }
            }
            return right;
        }

        int look(int c, int what) {
            Bill b = bill(c);
            if (b == null || !in(what, 0, 9)) {
                return NONE;
            }
            int bits = 0;
            for (int h : b.signs) {
                bits |= 1 << h;
            }
            return new int[] {b.hand, b.head, b.kind, b.sum, b.contract, b.tender ? 1 : 0, bits, b.day, countsBy(b),
                b.question}[what];
        }

        int about(int v, int what) {
            Auth a = auth(v);
            if (a == null || !in(what, 0, 7)) {
                return NONE;
            }
            return new int[] {a.kind, a.head, a.sum, a.year, a.words.clauses.size(), a.struck,
                a.kind == 1 ? a.of : a.by, a.told}[what];
        }

        int count(int what) {
            int[] all = {day, parents.size(), hands.size(), laws.size(), auths.size(), contracts.size(), bills.size(),
                payOrder.size(), items.size(), offers.size(), bids.size(), loans.size(), tape.length(), closed};
            return in(what, 0, 13) ? all[what] : NONE;
        }

        long sum(int what) {
            long s = 0;
            switch (what) {
                case 0:
                    return chest;
                case 1:
                    for (int[] t : taxes) {
                        s += t[1];
                    }
                    return s;
                case 2:
                    for (int c : payOrder) {
                        s += bills.get(c).sum;
                    }
                    return s;
                case 3:
                    for (int[] l : loans) {
                        s += l[3] == NONE ? l[0] : 0;
                    }
                    return s;
                case 4:
                    return interest;
                case 5:
                    for (int[] d : dues) {
                        s += d[0] == year() ? d[2] : 0;
                    }
                    return s;
                default:
                    return NONE;
            }
        }

        /** Faults by a table of states with a stack of what is open. */
        static int faultOf(String text, boolean law) {
            StringBuilder open = new StringBuilder();
            StringBuilder sides = new StringBuilder();
            String state = "clause";
            char letter = ' ';
            int clauses = 0;
            int most = 0;
            String behind = "";
            boolean right = false;
            int i = 0;
            while (i < text.length() || state.equals("number")) {
                char c = i < text.length() ? text.charAt(i) : (char) 0;
                boolean digit = c >= '0' && c <= '9';
                switch (state) {
                    case "clause":
                        if ("onstmcbedx".indexOf(c) < 0) {
                            return -1000 - i;
                        }
                        if (!law && "mcbedx".indexOf(c) >= 0) {
                            return -6000 - i;
                        }
                        if (++clauses > 16) {
                            return -4000 - i;
                        }
                        letter = c;
                        most = "mc".indexOf(c) >= 0 ? 100 : c == 'x' ? 19 : 999999;
                        behind = c == 'x' ? "dot" : "over";
                        state = "onst".indexOf(c) >= 0 ? "bracket" : "number";
                        i++;
                        break;
                    case "bracket":
                        if (c != '(') {
                            return -1000 - i;
                        }
                        open.append('c');
                        state = "piece";
                        right = false;
                        i++;
                        break;
                    case "dot":
                        if (c != '.') {
                            return -1000 - i;
                        }
                        most = 15;
                        behind = "over";
                        state = "number";
                        i++;
                        break;
                    case "number": {
                        int n = 0;
                        int j = i;
                        while (j < text.length() && text.charAt(j) >= '0' && text.charAt(j) <= '9') {
                            if (j - i == 6) {
                                return -2000 - j;
                            }
                            n = n * 10 + text.charAt(j++) - '0';
                        }
                        if (j == i) {
                            return -1000 - i;
                        }
                        if (n > most) {
                            return -3000 - i;
                        }
                        i = j;
                        state = behind;
                        if (state.equals("pieceEnds")) {
                            while (open.charAt(open.length() - 1) == '!') {
                                open.setLength(open.length() - 1);
                            }
                            state = "afterPiece";
                        }
                        break;
                    }
                    case "piece":
                        if (c == '!' || c == '(') {
                            if (open.length() == 8) {
                                return -5000 - i;
                            }
                            open.append(c);
                            i++;
                        } else if (c == 'u') {
                            i++;
                            most = 39;
                            behind = "pieceEnds";
                            state = "number";
                        } else {
                            right = false;
                            state = "factor";
                        }
                        break;
                    case "factor":
                        if (c == '[') {
                            if (open.length() == 8) {
                                return -5000 - i;
                            }
                            open.append(c);
                            sides.append(right ? 'r' : 'l');
                            i++;
                        } else if (digit) {
                            most = 999999;
                            behind = "afterFactor";
                            state = "number";
                        } else if ("ayhkrql".indexOf(c) >= 0) {
                            i++;
                            state = "afterFactor";
                        } else {
                            return -1000 - i;
                        }
                        break;
                    case "afterFactor": {
                        boolean inSquare = open.charAt(open.length() - 1) == '[';
                        if ("+-*/%".indexOf(c) >= 0) {
                            state = "factor";
                            i++;
                        } else if (inSquare) {
                            if (c != ']') {
                                return -1000 - i;
                            }
                            open.setLength(open.length() - 1);
                            right = sides.charAt(sides.length() - 1) == 'r';
                            sides.setLength(sides.length() - 1);
                            i++;
                        } else if (!right) {
                            if ("<>=".indexOf(c) < 0) {
                                return -1000 - i;
                            }
                            right = true;
                            state = "factor";
                            i++;
                        } else {
                            while (open.charAt(open.length() - 1) == '!') {
                                open.setLength(open.length() - 1);
                            }
                            state = "afterPiece";
                        }
                        break;
                    }
                    case "afterPiece":
                        if (c == '&' || c == '|') {
                            state = "piece";
                            i++;
                        } else if (c == ')') {
                            boolean whole = open.charAt(open.length() - 1) == 'c';
                            open.setLength(open.length() - 1);
                            i++;
                            if (whole) {
                                state = letter == 's' ? "rank" : "over";
                            } else {
                                while (open.charAt(open.length() - 1) == '!') {
                                    open.setLength(open.length() - 1);
                                }
                            }
                        } else {
                            return -1000 - i;
                        }
                        break;
                    case "rank":
                        if (c < '1' || c > '9') {
                            return -1000 - i;
                        }
                        state = "over";
                        i++;
                        break;
                    default:
                        if (c != ';') {
                            return -1000 - i;
                        }
                        state = "clause";
                        i++;
                }
            }
            return state.equals("over") ? 0 : -1000 - text.length();
        }
    }

    // ---- the runs

    private final Random random;
    private final SupplyBook book = new SupplyBook();
    private final Model model = new Model();
    private final StringBuilder log = new StringBuilder();
    private boolean wrong = false;
    private int calls = 0;
    /** How large sums of this run are. */
    private final int scale;

    private RandomRunsTest(long seed) {
        random = new Random(seed);
        scale = new int[] {5, 100, 5000, 1000000, 1000000000}[random.nextInt(5)];
    }

    private void due(String call, long got, long want) {
        calls++;
        log.append(call).append(" -> ").append(got).append('\n');
        if (got != want && !wrong) {
            wrong = true;
            log.append("   due is ").append(want).append('\n');
        }
    }

    private void due(String call, boolean got, boolean want) {
        due(call, got ? 1 : 0, want ? 1 : 0);
    }

    private int any(int size) {
        if (random.nextInt(25) == 0) {
            return new int[] {-1, size, -2, Integer.MAX_VALUE, Integer.MIN_VALUE, 100}[random.nextInt(6)];
        }
        return size == 0 ? 0 : random.nextInt(size);
    }

    private int late(int size) {
        return size == 0 || random.nextInt(3) == 0 ? any(size) : Math.max(0, size - 1 - random.nextInt(4));
    }

    private int sum() {
        switch (random.nextInt(30)) {
            case 0: return 0;
            case 1: return 1;
            case 2: return -1;
            case 3: return 1000000000;
            case 4: return 1000000001;
            case 5: return Integer.MIN_VALUE;
            default: return random.nextInt(scale) + 1;
        }
    }

    private int year() {
        return random.nextInt(4) == 0 ? any(10) : Math.min(9, model.year() + (random.nextInt(5) == 0 ? 1 : 0));
    }

    private String expression(int depth) {
        StringBuilder s = new StringBuilder(factor(depth));
        while (random.nextInt(3) == 0) {
            s.append("+-*/%".charAt(random.nextInt(5))).append(factor(depth));
        }
        return s.toString();
    }

    private String factor(int depth) {
        int pick = random.nextInt(8);
        if (pick == 0 && depth > 0) {
            return "[" + expression(depth - 1) + "]";
        }
        return pick < 4 ? "" + "ayhkrql".charAt(random.nextInt(7)) : digits(scale);
    }

    private String digits(int most) {
        switch (random.nextInt(40)) {
            case 0: return "" + most;
            case 1: return "" + (most + 1L);
            case 2: return "00" + random.nextInt(10);
            case 3: return "123456";
            default: return "" + random.nextInt(Math.min(most, 999998) + 1);
        }
    }

    private String piece(int depth) {
        int pick = random.nextInt(10);
        if (pick == 0 && depth > 0) {
            return "!" + piece(depth - 1);
        }
        if (pick == 1 && depth > 0) {
            return "(" + condition(depth - 1) + ")";
        }
        if (pick == 2) {
            return "u" + digits(random.nextInt(6) == 0 ? 39 : 4);
        }
        return expression(depth) + "<>=".charAt(random.nextInt(3)) + expression(depth);
    }

    private String condition(int depth) {
        StringBuilder s = new StringBuilder(piece(depth));
        while (random.nextInt(3) == 0) {
            s.append("&|".charAt(random.nextInt(2))).append(piece(depth));
        }
        return s.toString();
    }

    private String clause(boolean law) {
        String rules = "onst";
        int pick = random.nextInt(law ? 12 : 4);
        int depth = random.nextInt(12) == 0 ? 9 : 3;
        if (pick < 4) {
            char c = rules.charAt(pick);
            String condition = random.nextInt(2) == 0 ? condition(depth) : c == 'o' ? "a>0" : piece(0) + "&a<0";
            return c + "(" + condition + ")" + (c == 's' ? "" + (random.nextInt(9) + 1) : "");
        }
        switch (pick) {
            case 4: return "m" + digits(100);
            case 5: return "c" + digits(100);
            case 6:
            case 7: return "b" + digits(random.nextInt(3) == 0 ? 999999 : 1 + scale / 300);
            case 8: return "e" + digits(1 + scale / 300);
            case 9: return "d" + digits(60);
            default: return "x" + digits(Math.max(1, Math.min(19, model.laws.size()))) + "."
                    + digits(random.nextInt(3) == 0 ? 15 : 2);
        }
    }

    private String text(boolean law) {
        StringBuilder s = new StringBuilder(clause(law || random.nextInt(20) == 0));
        int many = random.nextInt(12) == 0 ? 17 : random.nextInt(4);
        for (int i = 0; i < many; i++) {
            s.append(';').append(many == 17 ? law ? "m" + random.nextInt(9) : "t(a=" + i + ")" : clause(law));
        }
        if (random.nextInt(6) == 0) {
            int at = random.nextInt(s.length());
            String signs = "onstmcbedxuayhkrql0123456789()[]!&|<>=+-*/%;. ~\u00ff";
            char c = signs.charAt(random.nextInt(signs.length()));
            switch (random.nextInt(3)) {
                case 0: s.setCharAt(at, c); break;
                case 1: s.insert(at, c); break;
                default: s.setLength(at + 1);
            }
        }
        return s.toString();
    }

    private void feedText(String s) {
        StringBuilder t = new StringBuilder(s);
        while (t.length() % 20 != 0) {
            t.append(' ');
        }
        for (int i = 0; i < t.length(); i += 20) {
            int[] x = new int[5];
            for (int j = 0; j < 20; j++) {
                x[j / 4] = x[j / 4] << 8 | t.charAt(i + j);
            }
            feedInts(x);
        }
    }

    private void feedInts(int[] x) {
        due("feed(" + x[0] + "," + x[1] + "," + x[2] + "," + x[3] + "," + x[4] + ")",
                book.feed(x[0], x[1], x[2], x[3], x[4]), model.feed(x[0], x[1], x[2], x[3], x[4]));
    }

    private void clearTape() {
        if (model.tape.length() > 0 && random.nextInt(10) > 0) {
            due("check(0,0)", book.check(0, 0), model.check(0, 0));
        }
    }

    private void tellLaw() {
        clearTape();
        String s = text(true);
        feedText(s);
        int from = random.nextInt(3) == 0 ? any(3600) : random.nextInt(3) == 0 ? model.day : 0;
        int to = random.nextInt(3) == 0 ? any(3600) : 3599;
        int n = random.nextInt(30) == 0 ? any(220) : s.length();
        due("law(" + from + "," + to + "," + n + ") " + s, book.law(from, to, n), model.law(from, to, n));
    }

    private void tellVote() {
        int n = 0;
        if (random.nextInt(4) == 0) {
            clearTape();
            String s = text(false);
            feedText(s);
            n = random.nextInt(30) == 0 ? any(220) : s.length();
        }
        int kind = random.nextInt(15) == 0 ? any(5) : new int[] {0, 0, 2, 3}[random.nextInt(4)];
        int head = random.nextInt(2) == 0 ? 0 : any(model.parents.size());
        int sum = random.nextInt(3) == 0 ? sum() : (int) Math.min(1000000000L, 5L * Math.max(0, sum()));
        int year = year();
        due("vote(" + kind + "," + head + "," + sum + "," + year + "," + n + ")",
                book.vote(kind, head, sum, year, n), model.vote(kind, head, sum, year, n));
    }

    private void tellCheck() {
        clearTape();
        int year = year();
        List<Integer> right = Model.in(year, 0, 9) ? model.triples(year) : new ArrayList<>();
        int n = right.size() / 3;
        if (random.nextInt(4) == 0 && !right.isEmpty()) {
            right.set(random.nextInt(right.size()), random.nextInt(5) - 1);
        }
        if (random.nextInt(6) == 0) {
            n += random.nextInt(3) - 1;
        }
        while (right.size() % 5 != 0 || random.nextInt(6) == 0) {
            right.add(random.nextInt(3));
        }
        for (int i = 0; i + 5 <= right.size() && i < 100; i += 5) {
            feedInts(new int[] {right.get(i), right.get(i + 1), right.get(i + 2), right.get(i + 3), right.get(i + 4)});
        }
        int m = n;
        due("check(" + year + "," + m + ")", book.check(year, m), model.check(year, m));
    }

    private void time() {
        int d = model.day;
        switch (random.nextInt(12)) {
            case 0: d = any(3600); break;
            case 1: d = (model.year() + 1) * 360 + random.nextInt(3) - 1; break;
            case 2: d += 100; break;
            default: d += random.nextInt(12);
        }
        if (d > model.day + 400 && random.nextInt(4) > 0) {
            return;
        }
        int day = d;
        due("now(" + day + ")", book.now(day), model.now(day));
    }

    private void claims() {
        int c = random.nextInt(3) == 0 ? any(model.bills.size()) : late(model.bills.size());
        switch (random.nextInt(9)) {
            case 0:
            case 1: {
                int hand = any(model.hands.size());
                int head = any(model.parents.size());
                int kind = any(10);
                int sum = sum();
                int contract = random.nextInt(5) > 0 ? NONE : any(model.contracts.size());
                boolean tender = random.nextBoolean();
                due("claim(" + hand + "," + head + "," + kind + "," + sum + "," + contract + "," + tender + ")",
                        book.claim(hand, head, kind, sum, contract, tender),
                        model.claim(hand, head, kind, sum, contract, tender));
                break;
            }
            case 2: {
                int h = any(model.hands.size());
                due("sign(" + c + "," + h + ")", book.sign(c, h), model.sign(c, h));
                break;
            }
            case 3:
                due("may(" + c + ")", book.may(c), model.may(c));
                break;
            case 4: {
                int what = any(10);
                due("look(" + c + "," + what + ")", book.look(c, what), model.look(c, what));
                break;
            }
            case 5: {
                due("question(" + c + ")", book.question(c), model.question(c));
                break;
            }
            default:
                due("pay(" + c + ")", book.pay(c), model.pay(c));
        }
    }

    private void authorities() {
        int v = any(model.auths.size());
        int w = any(model.auths.size());
        int head = any(model.parents.size());
        int sum = sum();
        switch (random.nextInt(9)) {
            case 0:
                due("ceiling(" + v + "," + head + "," + sum + ")", book.ceiling(v, head, sum),
                        model.ceiling(v, head, sum));
                break;
            case 1:
                due("advance(" + head + "," + sum + ")", book.advance(head, sum), model.advance(head, sum));
                break;
            case 2:
                due("cover(" + v + "," + w + ")", book.cover(v, w), model.cover(v, w));
                break;
            case 3:
                if (random.nextInt(4) == 0) {
                    due("strike(" + v + ")", book.strike(v), model.strike(v));
                }
                break;
            case 4: {
                int part = random.nextInt(3) == 0 ? sum : Math.max(0, sum / 10);
                due("move(" + v + "," + w + "," + part + ")", book.move(v, w, part), model.move(v, w, part));
                break;
            }
            case 5: {
                int from = year();
                int to = random.nextInt(3) == 0 ? year() : from;
                due("commit(" + v + "," + sum + "," + from + "," + to + ")", book.commit(v, sum, from, to),
                        model.commit(v, sum, from, to));
                break;
            }
            case 6: {
                int y = year();
                due("left(" + v + "," + y + ")", book.left(v, y), model.left(v, y));
                break;
            }
            case 7: {
                int what = any(8);
                due("about(" + v + "," + what + ")", book.about(v, what), model.about(v, what));
                break;
            }
            default:
                due("falls(" + v + ")", book.falls(v), model.falls(v));
        }
    }

    /** Covers and falls need an advance and a vote that fit: so they are sought here. */
    private void advances() {
        for (int v = model.auths.size() - 1; v >= 0; v--) {
            Auth a = model.auths.get(v);
            if (a.kind == 4 && random.nextInt(3) == 0) {
                int x = v;
                if (random.nextInt(3) == 0) {
                    due("falls(" + x + ")", book.falls(x), model.falls(x));
                    return;
                }
                for (int w = 0; w < model.auths.size(); w++) {
                    Auth b = model.auths.get(w);
                    if (b.kind == 0 && b.year == a.year && random.nextInt(2) == 0) {
                        int y = w;
                        due("cover(" + x + "," + y + ")", book.cover(x, y), model.cover(x, y));
                        return;
                    }
                }
            }
        }
        int head = any(model.parents.size());
        int sum = sum();
        due("advance(" + head + "," + sum + ")", book.advance(head, sum), model.advance(head, sum));
    }

    private void weeks() {
        int k = random.nextInt(3) == 0 ? any(6) : random.nextInt(2);
        int week = random.nextInt(2) == 0 ? any(52) : Math.min(51, model.week() + random.nextInt(8));
        int sum = sum();
        switch (random.nextInt(9)) {
            case 0:
            case 1:
                due("comes(" + k + "," + sum + ")", book.comes(k, sum), model.comes(k, sum));
                break;
            case 2: {
                int y = year();
                due("came(" + k + "," + y + "," + week + ")", book.came(k, y, week), model.came(k, y, week));
                break;
            }
            case 3: {
                int what = any(3);
                due("foretold(" + k + "," + week + "," + what + ")", book.foretold(k, week, what),
                        model.foretold(k, week, what));
                break;
            }
            case 4:
                due("due(" + week + "," + sum + ")", book.due(week, sum), model.due(week, sum));
                break;
            case 5:
                due("shortWeek()", book.shortWeek(), model.shortWeek());
                break;
            case 6: {
                int span = 1 + any(52);
                int cost = random.nextInt(3) == 0 ? 0 : random.nextInt(4) == 0 ? sum() : random.nextInt(9);
                due("offer(" + sum + "," + week + "," + span + "," + cost + ")", book.offer(sum, week, span, cost),
                        model.offer(sum, week, span, cost));
                break;
            }
            case 7:
                due("plan()", book.plan(), model.plan());
                break;
            default: {
                int set = any(1 << model.offers.size());
                due("judge(" + set + ")", book.judge(set), model.judge(set));
            }
        }
    }

    private void loans() {
        int i = any(model.loans.size());
        int sum = sum();
        switch (random.nextInt(7)) {
            case 0:
            case 1: {
                int rate = random.nextInt(3) == 0 ? any(10000) : random.nextInt(5) * 100;
                due("bid(" + sum + "," + rate + ")", book.bid(sum, rate), model.bid(sum, rate));
                break;
            }
            case 2: {
                boolean one = random.nextBoolean();
                int much = random.nextInt(2) == 0 ? sum : (int) Math.min(1000000000L, 4L * sum);
                due("tender(" + much + "," + one + ")", book.tender(much, one), model.tender(much, one));
                break;
            }
            case 3:
                due("repay(" + i + ")", book.repay(i), model.repay(i));
                break;
            default: {
                int what = any(5);
                due("loan(" + i + "," + what + ")", book.loan(i, what), model.loan(i, what));
            }
        }
    }

    private void audit() {
        int c = any(model.bills.size());
        int y = random.nextInt(5) == 0 ? any(10) : random.nextInt(3) == 0 ? Math.max(0, model.year() - 1) : model.year();
        int sum = sum();
        switch (random.nextInt(11)) {
            case 0: {
                int step = random.nextInt(2) == 0 ? sum : Math.max(1, sum / 3);
                int start = random.nextInt(8) == 0 ? sum() : any(Math.max(1, step));
                due("draw(" + y + "," + start + "," + step + ")", book.draw(y, start, step),
                        model.draw(y, start, step));
                break;
            }
            case 1: {
                int i = any(8);
                due("drawn(" + y + "," + i + ")", book.drawn(y, i), model.drawn(y, i));
                break;
            }
            case 2:
            case 3: {
                if (Model.in(y, 0, 9) && !model.drawn.get(y).isEmpty() && random.nextInt(4) > 0) {
                    c = model.drawn.get(y).get(random.nextInt(model.drawn.get(y).size()));
                    sum = random.nextInt(model.bills.get(c).sum + 1);
                }
                due("test(" + c + "," + sum + ")", book.test(c, sum), model.test(c, sum));
                break;
            }
            case 4: {
                int what = any(3);
                due("found(" + y + "," + what + ")", book.found(y, what), model.found(y, what));
                break;
            }
            case 5:
                due("question(" + c + ")", book.question(c), model.question(c));
                break;
            case 6: {
                boolean well = random.nextBoolean();
                due("answer(" + c + "," + well + ")", book.answer(c, well), model.answer(c, well));
                break;
            }
            case 7: {
                int h = any(model.hands.size());
                due("surcharged(" + h + ")", book.surcharged(h), model.surcharged(h));
                break;
            }
            case 8: {
                int part = random.nextInt(2) == 0 ? sum : Math.max(1, sum / 9);
                due("find(" + c + "," + part + ")", book.find(c, part), model.find(c, part));
                break;
            }
            case 9: {
                int head = any(model.parents.size());
                int d = random.nextInt(2) == 0 ? any(3600) : model.day;
                due("paid(" + y + "," + head + "," + d + ")", book.paid(y, head, d), model.paid(y, head, d));
                break;
            }
            default: {
                int z = random.nextInt(4) == 0 ? any(10) : model.closed;
                due("close(" + z + ")", book.close(z), model.close(z));
            }
        }
    }

    private void asking() {
        switch (random.nextInt(8)) {
            case 0: {
                int i = any(model.laws.size());
                int d = random.nextInt(2) == 0 ? any(3600) : model.day;
                due("counts(" + i + "," + d + ")", book.counts(i, d), model.counts(i, d));
                break;
            }
            case 1: {
                int l = any(5);
                int d = random.nextInt(2) == 0 ? any(3600) : model.day;
                due("number(" + l + "," + d + ")", book.number(l, d), model.number(l, d));
                break;
            }
            case 2: {
                int what = any(14);
                due("count(" + what + ")", book.count(what), model.count(what));
                break;
            }
            case 3: {
                int what = any(6);
                due("sum(" + what + ")", book.sum(what), model.sum(what));
                break;
            }
            case 4: {
                int head = any(model.parents.size());
                int sum = sum();
                int worth = random.nextInt(10) == 0 ? any(1000001) : random.nextInt(5);
                boolean floor = random.nextInt(6) == 0;
                due("ask(" + head + "," + sum + "," + worth + "," + floor + ")", book.ask(head, sum, worth, floor),
                        model.ask(head, sum, worth, floor));
                break;
            }
            case 5: {
                int total = (int) Math.min(1000000001L, (long) sum() * (1 + random.nextInt(6)));
                if (model.items.size() < 9 || random.nextInt(6) == 0) {
                    due("cut(" + total + ")", book.cut(total), model.cut(total));
                    due("more(" + total + ")", book.more(total), model.more(total));
                }
                break;
            }
            case 6: {
                int a = any(model.parents.size());
                int b = any(model.parents.size());
                due("under(" + a + "," + b + ")", book.under(a, b), model.under(a, b));
                break;
            }
            default:
                feedInts(new int[] {random.nextInt(), 0, 1, -1, 2});
        }
    }

    private void found() {
        for (int i = 0; i < 3; i++) {
            int parent = random.nextInt(3) == 0 ? NONE : any(model.parents.size());
            due("head(" + parent + ")", book.head(parent), model.head(parent));
            int head = random.nextInt(2) == 0 ? 0 : any(model.parents.size());
            int rank = any(10);
            due("hand(" + head + "," + rank + ")", book.hand(head, rank), model.hand(head, rank));
        }
    }

    private void tellText(String s, boolean law) {
        clearTape();
        feedText(s);
        int n = s.length();
        if (law) {
            due("law(0,3599," + n + ") " + s, book.law(0, 3599, n), model.law(0, 3599, n));
        } else {
            due("vote(0,0,9," + model.year() + "," + n + ") " + s, book.vote(0, 0, 9, model.year(), n),
                    model.vote(0, 0, 9, model.year(), n));
        }
    }

    private void fill(int k, int sum) {
        due("comes(" + k + "," + sum + ")", book.comes(k, sum), model.comes(k, sum));
    }

    /** Texts alone, with brackets as deep as can be and one deeper. */
    private void texts() {
        StringBuilder s = new StringBuilder(random.nextInt(3) == 0 ? "m5;o(" : "o(");
        StringBuilder closing = new StringBuilder(")");
        boolean inSum = false;
        int depth = 5 + random.nextInt(5);
        for (int i = 0; i < depth; i++) {
            char c = inSum ? '[' : "((![".charAt(random.nextInt(4));
            inSum |= c == '[';
            if (c == '(' && random.nextInt(3) == 0) {
                s.append(random.nextBoolean() ? "!u1&" : "[1]=a|");
            }
            s.append(c);
            if (c != '!') {
                if (c == '[' && closing.charAt(0) != ']') {
                    closing.insert(0, random.nextBoolean() ? "=1" : "=[a]");
                }
                closing.insert(0, c == '[' ? "]" : random.nextInt(3) == 0 ? "|!!a=1)" : ")");
            }
        }
        s.append(inSum ? "a" : "a=1").append(closing);
        tellText(s.toString(), s.charAt(0) == 'm' || random.nextBoolean());
        tellText(text(true), true);
        tellText(text(false), random.nextInt(3) == 0);
    }

    /** Many claims paid by one vote, so that the audit has something to find. */
    private void payments() {
        if (model.auths.isEmpty()) {
            fill(0, 1000000000);
            due("vote(3,0,1000000000,0,0)", book.vote(3, 0, 1000000000, 0, 0), model.vote(3, 0, 1000000000, 0, 0));
        }
        int c = model.bills.size();
        int hand = any(model.hands.size());
        int head = any(model.parents.size());
        int sum = sum();
        due("claim(" + hand + "," + head + ",1," + sum + ",-1,false)", book.claim(hand, head, 1, sum, NONE, false),
                model.claim(hand, head, 1, sum, NONE, false));
        for (int i = random.nextInt(4); i > 0; i--) {
            int h = any(model.hands.size());
            due("sign(" + c + "," + h + ")", book.sign(c, h), model.sign(c, h));
        }
        int b = random.nextInt(6) == 0 ? late(model.bills.size()) : c;
        due("pay(" + b + ")", book.pay(b), model.pay(b));
        for (int i = 0; i < 4; i++) {
            audit();
        }
        if (random.nextInt(5) == 0) {
            tellCheck();
        }
    }

    /** Weeks in which much comes, in more years than one. */
    private void taxes() {
        for (int i = random.nextInt(3); i >= 0; i--) {
            fill(random.nextInt(2), 1 + random.nextInt(scale));
        }
        int d = model.day + (random.nextInt(25) == 0 ? 360 : random.nextInt(60) == 0 ? 180 : random.nextInt(12));
        if (random.nextInt(10) == 0) {
            d = Math.max(model.day, (model.year() + 1) * 360 + random.nextInt(10) - 1);
        }
        int day = d;
        due("now(" + day + ")", book.now(day), model.now(day));
        for (int i = 0; i < 3; i++) {
            weeks();
        }
        for (int what = 0; what < 3 && random.nextInt(3) == 0; what++) {
            int week = Math.min(51, model.week() + 1 + random.nextInt(6));
            int k = random.nextInt(2);
            int w = what;
            due("foretold(" + k + "," + week + "," + w + ")", book.foretold(k, week, w), model.foretold(k, week, w));
        }
        if (random.nextInt(6) == 0 && model.chest < 1000000000) {
            int week = Math.min(51, model.week() + 1 + random.nextInt(9));
            int sum = (int) model.chest;
            due("due(" + week + "," + sum + ")", book.due(week, sum), model.due(week, sum));
        }
    }

    /** Taxes that grow from pence to as much as can come: what is foretold together is more than a long holds. */
    private void growth() {
        boolean isLean = model.week() < 3;
        boolean isGrown = model.year() % 2 == 1;
        for (int k = 0; k < 3; k++) {
            int less = random.nextInt(random.nextBoolean() ? 3 : 900000000);
            fill(k, isLean && !isGrown ? 1 + random.nextInt(3) : 1000000000 - less);
        }
        int day = model.day + 7 * (1 + random.nextInt(isLean ? 2 : 4));
        for (int i = 0; isGrown && i < 6; i++) {
            weeks();
            int week = Math.min(51, model.week() + 1 + random.nextInt(9));
            int sum = random.nextInt(3) == 0 ? sum() : 1000000000;
            due("due(" + week + "," + sum + ")", book.due(week, sum), model.due(week, sum));
            due("judge(0)", book.judge(0), model.judge(0));
        }
        if (isGrown && !isLean) {
            day = (model.year() + 1) * 360;
        }
        int next = day;
        due("now(" + next + ")", book.now(next), model.now(next));
    }

    /** Advances that pay, are covered early or late, and fall. */
    private void advancesAlone() {
        if (model.laws.isEmpty()) {
            fill(0, 1000000000);
            tellText("e" + (1 + scale / 100) + ";d" + random.nextInt(30), true);
        }
        advances();
        if (random.nextInt(4) == 0) {
            tellVote();
        }
        claims();
        claims();
        if (random.nextInt(3) == 0) {
            audit();
        }
        if (random.nextInt(4) == 0) {
            time();
        }
    }

    /** Votes, contracts, moves and ceilings without laws in their way. */
    private void votes() {
        if (model.chest == 0) {
            fill(0, 1000000000);
        }
        int v = late(model.auths.size());
        int w = late(model.auths.size());
        int year = model.year();
        if (random.nextInt(3) == 0) {
            tellVote();
        }
        int sum = Math.max(0, sum() / (1 + random.nextInt(20)));
        switch (random.nextInt(4)) {
            case 0:
                due("move(" + v + "," + w + "," + sum + ")", book.move(v, w, sum), model.move(v, w, sum));
                break;
            case 1: {
                int to = Math.min(9, year + (random.nextInt(4) == 0 ? 2 : 0));
                due("commit(" + v + "," + sum + "," + year + "," + to + ")", book.commit(v, sum, year, to),
                        model.commit(v, sum, year, to));
                break;
            }
            default:
                authorities();
        }
        claims();
        claims();
        claims();
        for (int y = year; y <= Math.min(9, year + 1); y++) {
            int z = y;
            due("left(" + v + "," + z + ")", book.left(v, z), model.left(v, z));
        }
        if (random.nextInt(20) == 0) {
            tellText("m" + random.nextInt(101) + ";c" + random.nextInt(101), true);
            time();
        }
    }

    private void anything() {
        switch (random.nextInt(24)) {
            case 0: if (random.nextInt(6) == 0) { found(); } break;
            case 1: tellLaw(); break;
            case 2:
            case 3: tellVote(); break;
            case 4: time(); break;
            case 5:
            case 6:
            case 7: authorities(); break;
            case 8: advances(); break;
            case 9:
            case 10: weeks(); break;
            case 11:
            case 12: loans(); break;
            case 13:
            case 14: audit(); break;
            case 15: asking(); break;
            case 16: if (random.nextInt(5) == 0) { tellCheck(); } break;
            default: claims();
        }
    }

    private void run() {
        found();
        int theme = random.nextInt(10);
        int most = random.nextInt(20) == 0 ? 512 : 250;
        while (calls < most && !wrong) {
            if (theme == 0 && calls > 10) {
                texts();
            } else if (theme == 1) {
                payments();
            } else if (theme == 2) {
                taxes();
            } else if (theme == 3) {
                advancesAlone();
            } else if (theme == 4) {
                votes();
            } else if (theme == 5) {
                growth();
            } else {
                anything();
            }
            if (theme < 6 && random.nextInt(12) == 0) {
                anything();
            }
        }
    }

    public static void main(String[] args) {
        int runs = args.length > 0 ? Integer.parseInt(args[0]) : RUNS;
        for (int seed = 0; seed < runs; seed++) {
            RandomRunsTest test = new RandomRunsTest(seed);
            test.run();
            if (test.wrong) {
                System.out.println("run of seed " + seed + ":\n" + test.log);
                System.exit(1);
            }
        }
        System.out.println(runs + " random runs are as the model says");
    }
}
