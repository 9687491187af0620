import java.util.ArrayList;
import java.util.HashMap;
import java.util.List;
import java.util.Map;
import java.util.NoSuchElementException;

/** The document once more, as plainly as it can be told, without a thought of speed: SharedPurse is held against it. */
final class PlainPurse {
    static final int NONE = -1;

    interface Part {
        int value(int score, int cost, int liked, int voters);
    }

    static final class Told {
        int budget = 0;
        List<String> names = new ArrayList<>();
        List<Integer> costs = new ArrayList<>();
        List<List<Integer>> scores = new ArrayList<>(); // voter, project
        Part law = null;

        Told copy() {
            Told t = new Told();
            t.budget = budget;
            t.names.addAll(names);
            t.costs.addAll(costs);
            for (List<Integer> row : scores) {
                t.scores.add(new ArrayList<>(row));
            }
            t.law = law;
            return t;
        }

        int projects() {
            return costs.size();
        }

        int voters() {
            return scores.size();
        }

        int liked(int p) {
            int n = 0;
            for (List<Integer> row : scores) {
                n += row.get(p) > 0 ? 1 : 0;
            }
            return n;
        }

        int worth(int v, int p) {
            int s = scores.get(v).get(p);
            if (s == 0) {
                return 0;
            }
            if (law == null) {
                return 1;
            }
            int w = law.value(s, costs.get(p), liked(p), voters());
            return w < 0 ? 0 : w > 9999 ? 9999 : w;
        }

        int worthOf(int v, int set) {
            int sum = 0;
            for (int p = 0; p < projects(); p++) {
                sum += (set & 1 << p) != 0 ? worth(v, p) : 0;
            }
            return sum;
        }

        int all(int p) {
            int sum = 0;
            for (int v = 0; v < voters(); v++) {
                sum += worth(v, p);
            }
            return sum;
        }

        int costOf(int set) {
            int sum = 0;
            for (int p = 0; p < projects(); p++) {
                sum += (set & 1 << p) != 0 ? costs.get(p) : 0;
            }
            return sum;
        }
    }

    static final class Fault extends RuntimeException {
        private static final long serialVersionUID = 1L;
        final int what;
        final int place;

        Fault(int what, int place) {
            this.what = what;
            this.place = place;
        }
    }

    static final class Token {
        String text; // null at the end
        int place;

        boolean isWord() {
            return text != null && text.matches("[a-z]+");
        }

        boolean isNumber() {
            return text != null && text.matches("[0-9]+");
        }

        boolean is(String s) {
            return s.equals(text);
        }
    }

    static final class Parser {
        final List<Token> tokens = new ArrayList<>();
        int i = 0;
        int open = 0;
        final Told told = new Told();

        Parser(String text) {
            int at = 0;
            while (at < text.length()) {
                int start = at;
                char c = text.charAt(at);
                if (c == ' ' || c == '\n') {
                    at++;
                    continue;
                }
                String of = "abcdefghijklmnopqrstuvwxyz".indexOf(c) >= 0 ? "abcdefghijklmnopqrstuvwxyz"
                        : "0123456789".indexOf(c) >= 0 ? "0123456789" : "";
                at++;
                while (!of.isEmpty() && at < text.length() && of.indexOf(text.charAt(at)) >= 0) {
                    at++;
                }
                Token t = new Token();
                t.text = text.substring(start, at);
                t.place = start;
                tokens.add(t);
            }
            Token end = new Token();
            end.place = text.length();
            tokens.add(end);
        }

        Token here() {
            return tokens.get(i);
        }

        Fault bad(int what) {
            return new Fault(what, here().place);
        }

        int number(int low, int high) {
            if (!here().isNumber()) {
                throw bad(1);
            }
            java.math.BigInteger n = new java.math.BigInteger(here().text);
            if (n.compareTo(java.math.BigInteger.valueOf(low)) < 0
                    || n.compareTo(java.math.BigInteger.valueOf(high)) > 0) {
                throw bad(2);
            }
            i++;
            return n.intValue();
        }

        String name() {
            Token t = here();
            if (!t.isWord() || t.text.length() > 6 || List.of("budget", "project", "votes", "law").contains(t.text)) {
                throw bad(1);
            }
            return t.text;
        }

        Told parse() {
            while (here().text != null) {
                line();
                if (!here().is(";")) {
                    throw bad(1);
                }
                i++;
            }
            return told;
        }

        void line() {
            Token t = here();
            if (t.is("budget")) {
                i++;
                told.budget = number(0, 99999);
            } else if (t.is("project")) {
                if (told.projects() == 12) {
                    throw bad(4);
                }
                i++;
                String name = name();
                if (told.names.contains(name)) {
                    throw bad(3);
                }
                i++;
                int cost = number(1, 9999);
                told.names.add(name);
                told.costs.add(cost);
                for (List<Integer> row : told.scores) {
                    row.add(0);
                }
            } else if (t.is("votes")) {
                i++;
                votes();
            } else if (t.is("law")) {
                if (told.law != null) {
                    throw bad(5);
                }
                i++;
                told.law = sum();
            } else {
                throw bad(1);
            }
        }

        void votes() {
            int many = number(1, 9);
            if (told.voters() + many > 24) {
                i--;
                throw bad(4);
            }
            Map<String, Integer> given = new HashMap<>();
            while (!here().is(";")) {
                String name = name();
                if (!told.names.contains(name) || given.containsKey(name)) {
                    throw bad(3);
                }
                i++;
                given.put(name, number(0, 9));
            }
            for (int k = 0; k < many; k++) {
                List<Integer> row = new ArrayList<>();
                for (String name : told.names) {
                    row.add(given.getOrDefault(name, 0));
                }
                told.scores.add(row);
            }
        }

        Part sum() {
            Part left = term();
            while (here().is("+") || here().is("-")) {
                boolean plus = here().is("+");
                i++;
                Part a = left;
                Part b = term();
                left = plus ? (s, c, l, v) -> a.value(s, c, l, v) + b.value(s, c, l, v)
                        : (s, c, l, v) -> a.value(s, c, l, v) - b.value(s, c, l, v);
            }
            return left;
        }

        Part term() {
            Part left = part();
            while (here().is("*") || here().is("/")) {
                boolean times = here().is("*");
                i++;
                Part a = left;
                Part b = part();
                left = times ? (s, c, l, v) -> a.value(s, c, l, v) * b.value(s, c, l, v)
                        : (s, c, l, v) -> {
                            int by = b.value(s, c, l, v);
                            return by == 0 ? 0 : a.value(s, c, l, v) / by;
                        };
            }
            return left;
        }

        Part part() {
            Token t = here();
            if (t.isNumber()) {
                int n = number(0, 9999);
                return (s, c, l, v) -> n;
            }
            if (t.is("(")) {
                if (open == 6) {
                    throw bad(4);
                }
                open++;
                i++;
                Part inner = sum();
                if (!here().is(")")) {
                    throw bad(1);
                }
                i++;
                open--;
                return inner;
            }
            if (t.isWord()) {
                switch (t.text) {
                    case "score": i++; return (s, c, l, v) -> s;
                    case "cost": i++; return (s, c, l, v) -> c;
                    case "liked": i++; return (s, c, l, v) -> l;
                    case "voters": i++; return (s, c, l, v) -> v;
                    default: break;
                }
            }
            throw bad(1);
        }
    }

    static final class Result {
        List<Integer> order = new ArrayList<>();
        int raised = 0;
        int[][] paid;
        List<int[]> pursesBehind = new ArrayList<>();
        List<Integer> prices = new ArrayList<>();

        int bits() {
            int b = 0;
            for (int p : order) {
                b |= 1 << p;
            }
            return b;
        }

        int[] purses() {
            return pursesBehind.get(pursesBehind.size() - 1);
        }
    }

    // ---- the rules

    static int price(Told t, int[] purses, int p) {
        long target = 1000L * t.costs.get(p);
        int[] w = new int[t.voters()];
        for (int v = 0; v < t.voters(); v++) {
            w[v] = t.worth(v, p);
        }
        long low = 1;
        long high = 200_000_000L;
        if (given(w, purses, high) < target) {
            return NONE;
        }
        while (low < high) {
            long mid = (low + high) / 2;
            if (given(w, purses, mid) >= target) {
                high = mid;
            } else {
                low = mid + 1;
            }
        }
        return (int) low;
    }

    static long given(int[] w, int[] purses, long r) {
        long sum = 0;
        for (int v = 0; v < w.length; v++) {
            sum += Math.min((long) purses[v], r * w[v]);
        }
        return sum;
    }

    static Result shares(Told t, int raised) {
        Result x = new Result();
        x.raised = raised;
        x.paid = new int[t.voters()][t.projects()];
        int[] purses = new int[t.voters()];
        for (int v = 0; v < t.voters(); v++) {
            purses[v] = t.budget * 1000 / t.voters() + raised * 1000;
        }
        x.pursesBehind.add(purses.clone());
        while (true) {
            int best = NONE;
            int bestPrice = 0;
            for (int p = 0; p < t.projects(); p++) {
                if (x.order.contains(p)) {
                    continue;
                }
                int r = price(t, purses, p);
                if (r == NONE) {
                    continue;
                }
                if (best == NONE || r < bestPrice || r == bestPrice && t.liked(p) > t.liked(best)) {
                    best = p;
                    bestPrice = r;
                }
            }
            if (best == NONE) {
                return x;
            }
            long rest = 1000L * t.costs.get(best);
            for (int v = 0; v < t.voters(); v++) {
                long pays = Math.min(rest, Math.min((long) purses[v], (long) bestPrice * t.worth(v, best)));
                x.paid[v][best] = (int) pays;
                purses[v] -= (int) pays;
                rest -= pays;
            }
            x.order.add(best);
            x.prices.add(bestPrice);
            x.pursesBehind.add(purses.clone());
        }
    }

    static Result raise(Told t) {
        Result last = null;
        for (int k = 0; k <= 300; k++) {
            Result x = shares(t, k);
            if (t.costOf(x.bits()) > t.budget) {
                return last;
            }
            last = x;
            if (x.order.size() == t.projects()) {
                return x;
            }
        }
        return last;
    }

    static void greedy(Told t, Result x, boolean byCost) {
        List<Integer> rest = new ArrayList<>();
        for (int p = 0; p < t.projects(); p++) {
            if (!x.order.contains(p)) {
                rest.add(p);
            }
        }
        int[] number = new int[t.projects()];
        for (int p = 0; p < t.projects(); p++) {
            number[p] = byCost ? t.all(p) * 1000 / t.costs.get(p) : t.all(p);
        }
        rest.sort((a, b) -> number[a] != number[b] ? Integer.compare(number[b], number[a])
                : !t.costs.get(a).equals(t.costs.get(b)) ? Integer.compare(t.costs.get(a), t.costs.get(b))
                : Integer.compare(a, b));
        for (int p : rest) {
            if (t.costOf(x.bits()) + t.costs.get(p) <= t.budget) {
                x.order.add(p);
            }
        }
    }

    static Result best(Told t, boolean worstFirst) {
        int best = NONE;
        long[] bestKey = null;
        int[][] worth = new int[t.voters()][t.projects()];
        for (int v = 0; v < t.voters(); v++) {
            for (int p = 0; p < t.projects(); p++) {
                worth[v][p] = t.worth(v, p);
            }
        }
        for (int set = 0; set < 1 << t.projects(); set++) {
            if (t.costOf(set) > t.budget) {
                continue;
            }
            int least = t.voters() == 0 ? 0 : Integer.MAX_VALUE;
            int sum = 0;
            for (int v = 0; v < t.voters(); v++) {
                int w = 0;
                for (int p = 0; p < t.projects(); p++) {
                    w += (set & 1 << p) != 0 ? worth[v][p] : 0;
                }
                least = Math.min(least, w);
                sum += w;
            }
            long[] key = {worstFirst ? least : 0, sum, -t.costOf(set), -set};
            if (bestKey == null || java.util.Arrays.compare(key, bestKey) > 0) {
                best = set;
                bestKey = key;
            }
        }
        Result x = new Result();
        for (int p = 0; p < t.projects(); p++) {
            if ((best & 1 << p) != 0) {
                x.order.add(p);
            }
        }
        return x;
    }

    /** What is due by some ticks from now on, the one that comes first of several; NONE. */
    static int dueIn(Told t, Result x, long[] purses, long ticks) {
        int best = NONE;
        for (int p = 0; p < t.projects(); p++) {
            long sum = 0;
            for (int v = 0; v < t.voters(); v++) {
                sum += t.scores.get(v).get(p) > 0 ? purses[v] + ticks : 0;
            }
            boolean isDue = !x.order.contains(p) && sum >= 1000L * t.costs.get(p);
            if (isDue && (best == NONE || t.liked(p) > t.liked(best))) {
                best = p;
            }
        }
        return best;
    }

    static Result time(Told t) {
        Result x = new Result();
        long[] purses = new long[t.voters()];
        int spent = 0;
        while (true) {
            long low = 0;
            long high = 1_000_000_000L;
            if (dueIn(t, x, purses, high) == NONE) {
                return x;
            }
            while (low < high) {
                long mid = (low + high) / 2;
                if (dueIn(t, x, purses, mid) != NONE) {
                    high = mid;
                } else {
                    low = mid + 1;
                }
            }
            int next = dueIn(t, x, purses, low);
            spent += t.costs.get(next);
            if (spent > t.budget) {
                return x;
            }
            x.order.add(next);
            for (int v = 0; v < t.voters(); v++) {
                purses[v] = t.scores.get(v).get(next) > 0 ? 0 : purses[v] + low;
            }
        }
    }

    static Result choose(int rule, Told t) {
        Result x = new Result();
        switch (rule) {
            case 0: return shares(t, 0);
            case 1: x = shares(t, 0); greedy(t, x, false); return x;
            case 2: return raise(t);
            case 3: x = raise(t); greedy(t, x, false); return x;
            case 4: greedy(t, x, false); return x;
            case 5: greedy(t, x, true); return x;
            case 6: return best(t, false);
            case 7: return best(t, true);
            default: return time(t);
        }
    }

    // ---- the object

    private final StringBuilder tape = new StringBuilder();
    private int place = NONE;
    private Told now = new Told();
    private Told kept = null;
    private final List<Told> acts = new ArrayList<>();
    private final Map<Integer, Result> results = new HashMap<>();

    int feed(int... five) {
        if (tape.length() + 20 > 500) {
            return NONE;
        }
        for (int n : five) {
            tape.append((char) (n >>> 24)).append((char) (n >>> 16 & 255))
                    .append((char) (n >>> 8 & 255)).append((char) (n & 255));
        }
        return tape.length();
    }

    int election(int n) {
        if (n < 0 || n > tape.length()) {
            throw new IllegalArgumentException();
        }
        String text = tape.substring(0, n);
        tape.setLength(0);
        try {
            Told t = new Parser(text).parse();
            place = NONE;
            change(t);
            acts.clear();
            return t.projects();
        } catch (Fault f) {
            place = f.place;
            return -10 - f.what;
        }
    }

    private void change(Told t) {
        now = t;
        results.clear();
    }

    private Result result(int rule) {
        if (!results.containsKey(rule)) {
            results.put(rule, choose(rule, now));
        }
        return results.get(rule);
    }

    private static void need(boolean is) {
        if (!is) {
            throw new NoSuchElementException();
        }
    }

    private static void allow(boolean is) {
        if (!is) {
            throw new IllegalArgumentException();
        }
    }

    private void rule(int r) {
        need(r >= 0 && r <= 8);
    }

    private void voter(int v) {
        need(v >= 0 && v < now.voters());
    }

    private void isProject(int p) {
        need(p >= 0 && p < now.projects());
    }

    int fault() {
        return place;
    }

    int count(int what) {
        need(what >= 0 && what <= 6);
        return new int[] {now.projects(), now.voters(), now.budget, now.costOf(-1), acts.size(), tape.length(),
            now.law == null ? 0 : 1}[what];
    }

    int project(int p, int what) {
        isProject(p);
        need(what >= 0 && what <= 8);
        String name = now.names.get(p) + "``````";
        return what == 0 ? now.costs.get(p) : what == 1 ? now.liked(p) : what == 2 ? now.all(p)
                : name.charAt(what - 3) - 96;
    }

    int vote(int v, int p, boolean worth) {
        voter(v);
        isProject(p);
        return worth ? now.worth(v, p) : now.scores.get(v).get(p);
    }

    int outcome(int rule, int what) {
        rule(rule);
        need(what >= 0 && what <= 6);
        Result x = result(rule);
        int sum = 0;
        int least = Integer.MAX_VALUE;
        int none = 0;
        for (int v = 0; v < now.voters(); v++) {
            int w = now.worthOf(v, x.bits());
            sum += w;
            least = Math.min(least, w);
            none += w > 0 ? 0 : 1;
        }
        return new int[] {x.bits(), x.order.size(), now.costOf(x.bits()), sum, now.voters() == 0 ? 0 : least, none,
            rule == 2 || rule == 3 ? x.raised : 0}[what];
    }

    int chosen(int rule, int k) {
        rule(rule);
        need(k >= 0 && k < result(rule).order.size());
        return result(rule).order.get(k);
    }

    int served(int rule, int v) {
        rule(rule);
        voter(v);
        return now.worthOf(v, result(rule).bits());
    }

    int paid(int rule, int v, int p) {
        need(rule >= 0 && rule <= 3);
        voter(v);
        if (p != NONE) {
            isProject(p);
            return result(rule).paid[v][p];
        }
        int sum = 0;
        for (int x : result(rule).paid[v]) {
            sum += x;
        }
        return sum;
    }

    int left(int rule, int v) {
        need(rule >= 0 && rule <= 3);
        if (v != NONE) {
            voter(v);
            return result(rule).purses()[v];
        }
        int sum = 0;
        for (int x : result(rule).purses()) {
            sum += x;
        }
        return sum;
    }

    int step(int k, int what) {
        Result x = result(0);
        need(k >= 0 && k < x.order.size() && what >= 0 && what <= 2);
        int p = x.order.get(k);
        int pay = 0;
        int empty = 0;
        for (int v = 0; v < now.voters(); v++) {
            pay += x.paid[v][p] > 0 ? 1 : 0;
            empty += x.paid[v][p] > 0 && x.pursesBehind.get(k + 1)[v] == 0 ? 1 : 0;
        }
        return what == 0 ? x.prices.get(k) : what == 1 ? pay : empty;
    }

    int price(int p, int k) {
        isProject(p);
        Result x = result(0);
        need(k >= 0 && k <= x.order.size());
        return x.order.subList(0, k).contains(p) ? NONE : price(now, x.pursesBehind.get(k), p);
    }

    private int members(int set) {
        int m = 0;
        for (int v = 0; v < now.voters(); v++) {
            boolean all = true;
            for (int p = 0; p < now.projects(); p++) {
                all &= (set & 1 << p) == 0 || now.worth(v, p) > 0;
            }
            m |= all ? 1 << v : 0;
        }
        return m;
    }

    private boolean isDue(int set) {
        int m = Integer.bitCount(members(set));
        return m > 0 && (long) m * now.budget >= (long) now.costOf(set) * now.voters();
    }

    int group(int set, int what) {
        need(set > 0 && set < 1 << now.projects() && what >= 0 && what <= 3);
        return what == 0 ? members(set) : what == 1 ? Integer.bitCount(members(set)) : what == 2 ? now.costOf(set)
                : isDue(set) ? 1 : 0;
    }

    boolean isServed(int set, int rule, boolean nearly) {
        need(set > 0 && set < 1 << now.projects());
        rule(rule);
        int bits = result(rule).bits();
        int m = members(set);
        for (int v = 0; v < now.voters(); v++) {
            if ((m & 1 << v) == 0) {
                continue;
            }
            if (now.worthOf(v, bits) >= now.worthOf(v, set)) {
                return true;
            }
            for (int p = 0; nearly && p < now.projects(); p++) {
                boolean isMissing = (set & 1 << p) != 0 && (bits & 1 << p) == 0;
                if (isMissing && now.worthOf(v, bits | 1 << p) >= now.worthOf(v, set)) {
                    return true;
                }
            }
        }
        return false;
    }

    int groups(int rule, int what) {
        rule(rule);
        need(what >= 0 && what <= 4);
        int[] facts = {0, 0, 0, NONE, NONE};
        for (int set = (1 << now.projects()) - 1; set > 0; set--) {
            if (!isDue(set)) {
                continue;
            }
            facts[0]++;
            if (!isServed(set, rule, false)) {
                facts[1]++;
                facts[3] = set;
            }
            if (!isServed(set, rule, true)) {
                facts[2]++;
                facts[4] = set;
            }
        }
        return facts[what];
    }

    int away(int rule, int v) {
        rule(rule);
        voter(v);
        Told t = now.copy();
        t.scores.remove(v);
        return choose(rule, t).bits();
    }

    int with(int rule, int budget) {
        rule(rule);
        allow(budget >= 0 && budget <= 99999);
        Told t = now.copy();
        t.budget = budget;
        return choose(rule, t).bits();
    }

    private int otherScore(int rule, int v, int p, int s) {
        Told t = now.copy();
        t.scores.get(v).set(p, s);
        return choose(rule, t).bits();
    }

    int voting(int rule, int v, int p, int s) {
        rule(rule);
        voter(v);
        isProject(p);
        allow(s >= 0 && s <= 9);
        return otherScore(rule, v, p, s);
    }

    int ride(int rule, int v, int what) {
        rule(rule);
        voter(v);
        need(what == 0 || what == 1);
        int most = 0;
        int by = NONE;
        for (int p = now.projects() - 1; p >= 0; p--) {
            if (now.scores.get(v).get(p) > 0) {
                int more = now.worthOf(v, otherScore(rule, v, p, 0)) - now.worthOf(v, result(rule).bits());
                if (more > 0 && more >= most) {
                    most = more;
                    by = p;
                }
            }
        }
        return what == 0 ? most : by;
    }

    int push(int rule, int p) {
        rule(rule);
        isProject(p);
        for (int k = 0; k <= now.voters(); k++) {
            Told t = now.copy();
            int given = 0;
            for (int v = 0; v < now.voters() && given < k; v++) {
                if (t.scores.get(v).get(p) == 0) {
                    t.scores.get(v).set(p, 9);
                    given++;
                }
            }
            if (given < k) {
                return NONE;
            }
            if ((choose(rule, t).bits() & 1 << p) != 0) {
                return k;
            }
        }
        return NONE;
    }

    int discount(int rule, int p) {
        rule(rule);
        isProject(p);
        for (int d = 0; d <= 9; d++) {
            Told t = now.copy();
            t.costs.set(p, Math.max(1, now.costs.get(p) * (10 - d) / 10));
            if ((choose(rule, t).bits() & 1 << p) != 0) {
                return d;
            }
        }
        return NONE;
    }

    private Told act() {
        acts.add(now);
        if (acts.size() > 20) {
            acts.remove(0);
        }
        change(now.copy());
        return now;
    }

    int budget(int v) {
        allow(v >= 0 && v <= 99999);
        int was = now.budget;
        act().budget = v;
        return was;
    }

    int cost(int p, int v) {
        isProject(p);
        allow(v >= 1 && v <= 9999);
        return act().costs.set(p, v);
    }

    int score(int voter, int p, int v) {
        voter(voter);
        isProject(p);
        allow(v >= 0 && v <= 9);
        return act().scores.get(voter).set(p, v);
    }

    int go(boolean voter, int i) {
        if (voter) {
            voter(i);
            act().scores.remove(i);
            return now.voters();
        }
        isProject(i);
        Told t = act();
        t.names.remove(i);
        t.costs.remove(i);
        for (List<Integer> row : t.scores) {
            row.remove(i);
        }
        return t.projects();
    }

    int undo() {
        if (acts.isEmpty()) {
            return NONE;
        }
        change(acts.remove(acts.size() - 1));
        return acts.size();
    }

    void image() {
        kept = now.copy();
    }

    boolean back() {
        if (kept == null) {
            return false;
        }
        change(kept.copy());
        acts.clear();
        return true;
    }
}
