import java.util.NoSuchElementException;

/** What the tests have in common: answers held against those that are due, elections fed as texts. */
abstract class Checks {
    static final int LOW = Integer.MIN_VALUE;
    static final int HIGH = Integer.MAX_VALUE;
    static final int NONE = SharedPurse.NONE;
    /** Two who like both, one who likes a alone; purses of 10000. */
    static final String PARK = "project a 10;project b 20;budget 30;votes 2 a 1 b 1;votes 1 a 1;";

    private static int wrong = 0;
    private static String sentence = "";

    interface Call {
        long answer();
    }

    interface Deed {
        void on(SharedPurse x);
    }

    interface Asked {
        long on(SharedPurse x);
    }

    /** The document's sentence that the checks behind this stand for. */
    static void says(String words) {
        sentence = words;
    }

    private static void tell(String what) {
        wrong++;
        System.out.println((sentence.isEmpty() ? "" : "'" + sentence + "': ") + what);
    }

    static void finish(String allWell) {
        System.out.println(wrong == 0 ? allWell : wrong + " wrong");
        System.exit(wrong == 0 ? 0 : 1);
    }

    static void due(String what, long got, long want) {
        if (got != want) {
            tell(what + " answered " + got + ", due is " + want);
        }
    }

    static void yes(String what, boolean got) {
        due(what, got ? 1 : 0, 1);
    }

    static void no(String what, boolean got) {
        due(what, got ? 1 : 0, 0);
    }

    static String thrown(Call c) {
        try {
            c.answer();
            return "nothing";
        } catch (NoSuchElementException e) {
            return "NoSuchElementException";
        } catch (IllegalArgumentException e) {
            return "IllegalArgumentException";
        } catch (RuntimeException e) {
            return e.toString();
        }
    }

    private static void throwing(String what, Call c, String want) {
        String got = thrown(c);
        if (!got.equals(want)) {
            tell(what + " throws " + got + ", due is " + want);
        }
    }

    static void noneSuch(String what, Call c) {
        throwing(what, c, "NoSuchElementException");
    }

    static void illegal(String what, Call c) {
        throwing(what, c, "IllegalArgumentException");
    }

    static void fine(String what, Call c) {
        throwing(what, c, "nothing");
    }

    static void feed(SharedPurse x, String text) {
        for (int at = 0; at < text.length(); at += 20) {
            int[] n = new int[5];
            for (int i = 0; i < 20; i++) {
                n[i / 4] = n[i / 4] << 8 | (at + i < text.length() ? text.charAt(at + i) & 255 : 32);
            }
            x.feed(n[0], n[1], n[2], n[3], n[4]);
        }
    }

    static int read(SharedPurse x, String text) {
        feed(x, text);
        return x.election(text.length());
    }

    static SharedPurse of(String text) {
        SharedPurse x = new SharedPurse();
        int projects = read(x, text);
        if (projects < 0) {
            tell(text + " has fault " + (-10 - projects) + " at " + x.fault());
        }
        return x;
    }

    static void fault(String text, int what, int place) {
        SharedPurse x = of(PARK);
        due("election(" + text + ")", read(x, text), -10 - what);
        due("fault of " + text, x.fault(), place);
        due("projects behind a fault", x.count(0), 2);
        due("tape behind a fault", x.count(5), 0);
    }

    static void good(String text, int projects) {
        SharedPurse x = new SharedPurse();
        due("election(" + text + ")", read(x, text), projects);
        due("fault of " + text, x.fault(), NONE);
    }

    static String name(int k) {
        return String.valueOf((char) ('a' + k));
    }

    /** Projects a, b, .. of one cost. */
    static String projects(int n, int cost) {
        StringBuilder s = new StringBuilder();
        for (int i = 0; i < n; i++) {
            s.append("project ").append(name(i)).append(' ').append(cost).append(';');
        }
        return s.toString();
    }

    static String projects(int n) {
        return projects(n, 1);
    }

    /** 24 voters with the same scores. */
    static String all24(String scores) {
        return "votes 9 " + scores + ";votes 9 " + scores + ";votes 6 " + scores + ";";
    }

    /** Twelve wanted by all 24, each 9999; with a budget of 99999 ten of them fit. */
    static final String FULL = projects(12, 9999) + "budget 99999;" + all24("a1b1c1d1e1f1g1h1i1j1k1l1");

    /** All that is told, as far as calls tell it. */
    static String lookAtTold(SharedPurse x) {
        StringBuilder s = new StringBuilder();
        for (int what = 0; what <= 6; what++) {
            s.append(x.count(what)).append(' ');
        }
        for (int p = 0; p < x.count(0); p++) {
            for (int what = 0; what <= 8; what++) {
                s.append(x.project(p, what)).append(' ');
            }
            for (int v = 0; v < x.count(1); v++) {
                s.append(x.vote(v, p, false)).append('/').append(x.vote(v, p, true)).append(' ');
            }
        }
        return s.append('\n').toString();
    }

    /** What the rules make of it. */
    static String lookAtRules(SharedPurse x) {
        StringBuilder s = new StringBuilder();
        for (int rule = 0; rule <= 8; rule++) {
            for (int what = 0; what <= 6; what++) {
                s.append(x.outcome(rule, what)).append(' ');
            }
            for (int k = 0; k < x.outcome(rule, 1); k++) {
                s.append(x.chosen(rule, k)).append(' ');
            }
            for (int what = 0; what <= 3; what++) {
                s.append(x.groups(rule, what)).append(' ');
            }
            s.append('\n');
        }
        for (int rule = 0; rule <= 3; rule++) {
            s.append(x.left(rule, NONE)).append(' ');
        }
        return s.append('\n').toString();
    }

    /** All of it, and then what is kept: acts, one by one, the image, the tape; few enough calls for one object. */
    static String lookThrough(SharedPurse x) {
        StringBuilder s = new StringBuilder(lookAtTold(x)).append(lookAtRules(x)).append(x.fault()).append('\n');
        for (int acts = x.count(4); acts > 0; acts--) {
            s.append(x.undo()).append(' ').append(lookAtTold(x));
        }
        s.append(x.back()).append(' ').append(lookAtTold(x));
        s.append(x.election(x.count(5))).append(' ').append(x.fault()).append(' ').append(lookAtTold(x));
        return s.toString();
    }

    /** Behind either all that can be asked is the same. */
    static void alike(String what, Deed one, Deed other) {
        SharedPurse x = new SharedPurse();
        SharedPurse y = new SharedPurse();
        one.on(x);
        other.on(y);
        String got = lookThrough(x);
        String want = lookThrough(y);
        if (!got.equals(want)) {
            tell(what + " changes what stands: " + got + "due is " + want);
        }
    }

    /** With the call or without it all is the same. */
    static void changesNothing(String what, Deed ready, Asked call) {
        alike(what, x -> {
            ready.on(x);
            thrown(() -> call.on(x));
        }, ready);
    }

    /** Questions by all rules, of what is there and of what would be. */
    static void askMuch(SharedPurse x) {
        for (int rule = 0; rule <= 8; rule++) {
            int r = rule;
            x.outcome(rule, 0);
            x.groups(rule, 2);
            x.with(rule, 7);
            thrown(() -> x.away(r, 0));
            thrown(() -> x.push(r, 0));
            thrown(() -> x.discount(r, 0));
        }
        thrown(() -> x.price(0, 0));
    }
}
