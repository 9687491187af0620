import java.util.NoSuchElementException;
import java.util.Random;

/** Runs of calls by a seeded die, each answer held against PlainPurse's. */
public final class RandomRunsTest {
    private static int wrong = 0;
    private static final String[] NAMES = {"a", "b", "bb", "park", "score", "voters", "zzzzzz", "liked", "x", "y", "w",
        "cost", "tree"};

    interface Call {
        long answer();
    }

    private static String told(Call c) {
        try {
            return Long.toString(c.answer());
        } catch (NoSuchElementException e) {
            return "throws.NoSuchElementException";
        } catch (IllegalArgumentException e) {
            return "throws.IllegalArgumentException";
        } catch (RuntimeException e) {
            return "throws." + e;
        }
    }

    private static void same(long seed, String name, Call mine, Call plain) {
        String a = told(mine);
        String b = told(plain);
        if (!a.equals(b)) {
            wrong++;
            if (wrong < 50) {
                System.out.println("seed " + seed + ": " + name + " answered " + a + ", due is " + b);
            }
        }
    }

    static int pick(Random r, int... some) {
        return some[r.nextInt(some.length)];
    }

    static String part(Random r, int depth) {
        switch (r.nextInt(depth > 3 ? 5 : 7)) {
            case 0: return "" + pick(r, 0, 1, 2, 3, 7, 10, 100, 9999);
            case 1: return "score";
            case 2: return "cost";
            case 3: return "liked";
            case 4: return "voters";
            default: return "(" + sum(r, depth + 1) + ")";
        }
    }

    static String sum(Random r, int depth) {
        StringBuilder s = new StringBuilder(part(r, depth));
        for (int k = r.nextInt(3); k > 0; k--) {
            s.append("+-*/".charAt(r.nextInt(4))).append(part(r, depth));
        }
        return s.toString();
    }

    static int someMoney(Random r, int projects, int costTop) {
        return r.nextInt(Math.min(100000, 1 + projects * costTop));
    }

    /** An election that has no fault. */
    static String election(Random r, int costTop) {
        StringBuilder s = new StringBuilder();
        int projects = r.nextInt(8) == 0 ? 9 + r.nextInt(4) : r.nextInt(9);
        int told = 0;
        int voters = 0;
        boolean law = r.nextInt(3) == 0;
        int shape = r.nextInt(3);
        while (told < projects || r.nextInt(5) > 0) {
            int kind = r.nextInt(6);
            if (told < projects && (kind < 3 || told < 2)) {
                s.append("project ").append(NAMES[told]).append(' ').append(1 + r.nextInt(costTop)).append(';');
                told++;
            } else if (kind == 3 || kind == 4) {
                int many = 1 + r.nextInt(r.nextInt(4) == 0 ? 9 : 3);
                if (voters + many > 24) {
                    break;
                }
                voters += many;
                s.append("votes ").append(many);
                for (int p = 0; p < told; p++) {
                    if (r.nextInt(2) == 0) {
                        s.append(' ').append(NAMES[p]).append(' ').append(shape == 0 ? 1 : r.nextInt(10));
                    }
                }
                s.append(';');
            } else if (law) {
                s.append("law ").append(r.nextInt(3) == 0 ? "score" : sum(r, 0)).append(";\n");
                law = false;
            } else {
                s.append("budget ").append(r.nextInt(12) == 0 ? 99999 : someMoney(r, projects, costTop)).append(';');
            }
            if (s.length() > 400) {
                break;
            }
        }
        s.append(" budget ").append(someMoney(r, projects, costTop)).append(';');
        return s.toString();
    }

    /** Some bytes changed, left out, put in. */
    static String spoilt(Random r, String text) {
        String[] bits = {";", "law", "project", "votes 9;", "budget 1;", "(", ")", "((((((", "(((((((", "1", "0", "10",
            "99999", "100000", "9999", "10000", "toolong", "a", "b", "score", "+", "-", "\t", "\n", " ", "A", "\u00e9",
            "\u0000", "00000000000007", "99999999999999999999", "votes", "law 1;", "project q 3;", "*", "/", "budget"};
        StringBuilder s = new StringBuilder(text);
        for (int k = r.nextInt(3); k >= 0; k--) {
            int at = r.nextInt(s.length() + 1);
            switch (r.nextInt(3)) {
                case 0: s.insert(at, bits[r.nextInt(bits.length)]); break;
                case 1: s.delete(at, Math.min(s.length(), at + 1 + r.nextInt(3))); break;
                default:
                    int semi = s.indexOf(";", at);
                    s.insert(semi < 0 ? s.length() : semi + 1, bits[r.nextInt(bits.length)]);
                    break;
            }
        }
        return s.toString();
    }

    static void feedBoth(long seed, SharedPurse x, PlainPurse y, String text) {
        for (int at = 0; at < text.length(); at += 20) {
            int[] n = new int[5];
            for (int i = 0; i < 20; i++) {
                int b = at + i < text.length() ? text.charAt(at + i) : 32;
                n[i / 4] = n[i / 4] << 8 | b & 255;
            }
            same(seed, "feed", () -> x.feed(n[0], n[1], n[2], n[3], n[4]), () -> y.feed(n));
        }
    }

    static void newElection(long seed, Random r, SharedPurse x, PlainPurse y, int costTop) {
        String text = election(r, costTop);
        String fed = r.nextInt(4) == 0 ? spoilt(r, text) : text;
        feedBoth(seed, x, y, fed);
        int n = r.nextInt(15) == 0 ? r.nextInt(530) - 5 : Math.min(500, fed.length());
        same(seed, "election(" + fed + ")", () -> x.election(n), () -> y.election(n));
        same(seed, "fault(" + fed + ")", x::fault, y::fault);
        if (x.count(0) == 0) {
            feedBoth(seed, x, y, text);
            same(seed, "election", () -> x.election(text.length()), () -> y.election(text.length()));
        }
    }

    /** Mostly one that is there. */
    static int index(Random r, int many) {
        return many == 0 || r.nextInt(25) == 0 ? pick(r, -2, -1, many, many + 1, 1 << 30, Integer.MIN_VALUE)
                : r.nextInt(many);
    }

    static void look(long seed, Random r, SharedPurse x, PlainPurse y) {
        int ps = x.count(0);
        int vs = x.count(1);
        int rule = index(r, 9);
        int payRule = index(r, 4);
        int p = index(r, ps);
        int v = index(r, vs);
        int k = r.nextInt(ps + 2) - (r.nextInt(10) == 0 ? 1 : 0);
        int set = index(r, 1 << ps);
        boolean yes = r.nextBoolean();
        int w = index(r, 7);
        switch (r.nextInt(13)) {
            case 0: same(seed, "count " + w, () -> x.count(w), () -> y.count(w)); break;
            case 1: { int q = index(r, 9); same(seed, "project", () -> x.project(p, q), () -> y.project(p, q)); break; }
            case 2: same(seed, "vote", () -> x.vote(v, p, yes), () -> y.vote(v, p, yes)); break;
            case 3: case 4: same(seed, "outcome " + rule + " " + w, () -> x.outcome(rule, w), () -> y.outcome(rule, w)); break;
            case 5: same(seed, "chosen " + rule, () -> x.chosen(rule, k), () -> y.chosen(rule, k)); break;
            case 6: same(seed, "served " + rule, () -> x.served(rule, v), () -> y.served(rule, v)); break;
            case 7: {
                int q = r.nextInt(4) == 0 ? -1 : p;
                same(seed, "paid " + payRule + " " + v + " " + q, () -> x.paid(payRule, v, q), () -> y.paid(payRule, v, q));
                break;
            }
            case 8: {
                int q = r.nextInt(4) == 0 ? -1 : v;
                same(seed, "left " + payRule, () -> x.left(payRule, q), () -> y.left(payRule, q));
                break;
            }
            case 9: { int q = index(r, 3); same(seed, "step", () -> x.step(k, q), () -> y.step(k, q)); break; }
            case 10: same(seed, "price", () -> x.price(p, k), () -> y.price(p, k)); break;
            case 11: { int q = index(r, 4); same(seed, "group", () -> x.group(set, q), () -> y.group(set, q)); break; }
            default:
                same(seed, "isServed", () -> x.isServed(set, rule, yes) ? 1 : 0, () -> y.isServed(set, rule, yes) ? 1 : 0);
                break;
        }
    }

    static void lookAtGroups(long seed, Random r, SharedPurse x, PlainPurse y) {
        int rule = 4 + r.nextInt(5);
        for (int what = 1; what <= 4 && x.count(0) < 9; what++) {
            int w = what;
            same(seed, "groups " + rule + " " + w, () -> x.groups(rule, w), () -> y.groups(rule, w));
        }
        for (int k = 0; k < 3 && x.count(1) > 0; k++) {
            int v = r.nextInt(x.count(1));
            int by = pick(r, 0, 1, 8, rule);
            same(seed, "ride " + by, () -> x.ride(by, v, 0), () -> y.ride(by, v, 0));
            same(seed, "ride " + by, () -> x.ride(by, v, 1), () -> y.ride(by, v, 1));
        }
    }

    static void wonder(long seed, Random r, SharedPurse x, PlainPurse y, int costTop) {
        int ps = x.count(0);
        int vs = x.count(1);
        int rule = index(r, 9);
        int p = index(r, ps);
        int v = index(r, vs);
        switch (r.nextInt(7)) {
            case 0: { int q = index(r, 5); same(seed, "groups " + rule + " " + q, () -> x.groups(rule, q), () -> y.groups(rule, q)); break; }
            case 1: same(seed, "away " + rule, () -> x.away(rule, v), () -> y.away(rule, v)); break;
            case 2: { int b = r.nextInt(3) > 0 ? someMoney(r, ps, costTop) : pick(r, -1, 0, 99999, 100000);
                same(seed, "with " + rule, () -> x.with(rule, b), () -> y.with(rule, b)); break; }
            case 3: { int s = r.nextInt(12) - 1;
                same(seed, "voting " + rule, () -> x.voting(rule, v, p, s), () -> y.voting(rule, v, p, s)); break; }
            case 4: { int q = index(r, 2); same(seed, "ride " + rule, () -> x.ride(rule, v, q), () -> y.ride(rule, v, q)); break; }
            case 5: same(seed, "push " + rule, () -> x.push(rule, p), () -> y.push(rule, p)); break;
            default: same(seed, "discount " + rule, () -> x.discount(rule, p), () -> y.discount(rule, p)); break;
        }
    }

    static void act(long seed, Random r, SharedPurse x, PlainPurse y, int costTop) {
        int ps = x.count(0);
        int vs = x.count(1);
        int p = index(r, ps);
        int v = index(r, vs);
        switch (r.nextInt(8)) {
            case 0: { int b = r.nextInt(3) > 0 ? someMoney(r, ps, costTop) : pick(r, -1, 0, 99999, 100000);
                same(seed, "budget", () -> x.budget(b), () -> y.budget(b)); break; }
            case 1: { int c = r.nextInt(costTop + 2) - 1; same(seed, "cost", () -> x.cost(p, c), () -> y.cost(p, c)); break; }
            case 2: case 3: { int s = r.nextInt(12) - 1; same(seed, "score", () -> x.score(v, p, s), () -> y.score(v, p, s)); break; }
            case 4: { boolean b = r.nextInt(4) > 0; int i = b ? v : p;
                same(seed, "go", () -> x.go(b, i), () -> y.go(b, i)); break; }
            case 5: same(seed, "undo", x::undo, y::undo); break;
            case 6:
                if (r.nextInt(3) == 0) {
                    x.image();
                    y.image();
                }
                break;
            default:
                if (r.nextInt(5) == 0) {
                    same(seed, "back", () -> x.back() ? 1 : 0, () -> y.back() ? 1 : 0);
                }
                break;
        }
    }

    public static void main(String[] args) {
        int runs = args.length > 0 ? Integer.parseInt(args[0]) : 600;
        long first = args.length > 1 ? Long.parseLong(args[1]) : 1;
        for (long seed = first; seed < first + runs; seed++) {
            Random r = new Random(seed);
            SharedPurse x = new SharedPurse();
            PlainPurse y = new PlainPurse();
            int costTop = pick(r, 3, 6, 12, 30, 400, 9999);
            for (int rounds = 0; rounds < 6; rounds++) {
                newElection(seed, r, x, y, costTop);
                lookAtGroups(seed, r, x, y);
                for (int k = 0; k < 30; k++) {
                    int kind = r.nextInt(8);
                    if (kind < 5) {
                        look(seed, r, x, y);
                    } else if (kind == 5) {
                        wonder(seed, r, x, y, costTop);
                    } else {
                        act(seed, r, x, y, costTop);
                    }
                }
            }
        }
        System.out.println(wrong == 0 ? "all random runs are as due" : wrong + " wrong");
        System.exit(wrong == 0 ? 0 : 1);
    }
}
