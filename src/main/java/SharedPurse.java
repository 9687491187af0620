import java.util.Arrays;
import java.util.NoSuchElementException;

/** Participatory budgeting: elections told as texts, nine rules of choosing, and what would be otherwise. */
public final class SharedPurse {
    public static final int NONE = -1;

    private static final int PROJECTS = 12;
    private static final int VOTERS = 24;
    private static final int LETTERS = 6;
    private static final int TEXT = 500;
    private static final int FED = 20;
    private static final int BUDGET_TOP = 99999;
    private static final int COST_TOP = 9999;
    private static final int SCORE_TOP = 9;
    private static final int WORTH_TOP = 9999;
    private static final int GROUP_TOP = 9;
    private static final int OPEN_TOP = 6;
    private static final int MILLS = 1000;
    private static final int RAISES = 300;
    private static final int ACTS = 20;
    private static final int TENTHS = 10;

    private static final int RULES = 9;
    private static final int PAYING_RULES = 4;
    private static final int EQUAL_SHARES = 0;
    private static final int FILLED = 1;
    private static final int RAISED = 2;
    private static final int RAISED_AND_FILLED = 3;
    private static final int GREEDY = 4;
    private static final int GREEDY_BY_COST = 5;
    private static final int MOST = 6;
    private static final int WORST_FIRST = 7;

    private final Reader reader = new Reader();
    private int faultPlace = NONE;

    private final Poll poll = new Poll();
    private final Outcome[] outcomes = new Outcome[RULES];
    /** Bit k: outcomes[k] is what RULE k gives now. */
    private int known = 0;

    private final Poll trial = new Poll();
    private final Outcome trialOutcome = new Outcome();
    private final Chooser chooser = new Chooser();
    private final Groups groupsLook = new Groups();

    private final History history = new History();
    private final Election kept = new Election();
    private boolean isKept = false;

    public SharedPurse() {
        for (int rule = 0; rule < RULES; rule++) {
            outcomes[rule] = new Outcome();
        }
    }

    // ---- the tape and the text

    public int feed(int a, int b, int c, int d, int e) {
        if (reader.tapeSize + FED > TEXT) {
            return NONE;
        }
        reader.addBytes(a);
        reader.addBytes(b);
        reader.addBytes(c);
        reader.addBytes(d);
        reader.addBytes(e);
        return reader.tapeSize;
    }

    public int election(int n) throws IllegalArgumentException {
        if (n < 0 || n > reader.tapeSize) {
            throw new IllegalArgumentException("the tape has not so many");
        }
        int fault = reader.readText(n);
        if (fault != 0) {
            faultPlace = reader.place;
            return -10 - fault;
        }
        faultPlace = NONE;
        startFrom(reader.told);
        return poll.told.projects;
    }

    private void startFrom(Election other) {
        poll.told.copyFrom(other);
        history.size = 0;
        poll.tally();
        known = 0;
    }

    private void refresh() {
        poll.tally();
        known = 0;
    }

    public int fault() {
        return faultPlace;
    }

    // ---- what is told

    public int count(int what) throws NoSuchElementException {
        needWhat(what, 6);
        switch (what) {
            case 0: return poll.told.projects;
            case 1: return poll.told.voters;
            case 2: return poll.told.money;
            case 3: return poll.told.costOf((1 << poll.told.projects) - 1);
            case 4: return history.size;
            case 5: return reader.tapeSize;
            default: return poll.told.law == null ? 0 : 1;
        }
    }

    public int project(int project, int what) throws NoSuchElementException {
        needProject(project);
        needWhat(what, 2 + LETTERS);
        switch (what) {
            case 0: return poll.told.costs[project];
            case 1: return poll.liked[project];
            case 2: return poll.all[project];
            default: return poll.told.names[project * LETTERS + what - 3];
        }
    }

    public int vote(int voter, int project, boolean worth) throws NoSuchElementException {
        needVoter(voter);
        needProject(project);
        int place = project * VOTERS + voter;
        return worth ? poll.worth[place] : poll.told.scores[place];
    }

    // ---- what the rules choose

    public int outcome(int rule, int what) throws NoSuchElementException {
        needRule(rule);
        needWhat(what, 6);
        Outcome o = result(rule);
        switch (what) {
            case 0: return o.bits;
            case 1: return o.size;
            case 2: return o.spent;
            case 3: return poll.worthToAll(o.bits);
            case 4: return poll.worthToWorst(o.bits);
            case 5: return poll.unserved(o.bits);
            default: return o.raised;
        }
    }

    public int chosen(int rule, int k) throws NoSuchElementException {
        needRule(rule);
        Outcome o = result(rule);
        if (k < 0 || k >= o.size) {
            throw new NoSuchElementException("not so many are chosen");
        }
        return o.order[k];
    }

    public int served(int rule, int voter) throws NoSuchElementException {
        needRule(rule);
        needVoter(voter);
        return poll.worthTo(voter, result(rule).bits);
    }

    public int paid(int rule, int voter, int project) throws NoSuchElementException {
        needPayingRule(rule);
        needVoter(voter);
        Outcome o = result(rule);
        if (project != NONE) {
            needProject(project);
            return o.paidBy(voter, project);
        }
        int sum = 0;
        for (int p = 0; p < poll.told.projects; p++) {
            sum += o.paidBy(voter, p);
        }
        return sum;
    }

    public int left(int rule, int voter) throws NoSuchElementException {
        needPayingRule(rule);
        Outcome o = result(rule);
        if (voter != NONE) {
            needVoter(voter);
            return o.purses[voter];
        }
        int sum = 0;
        for (int v = 0; v < poll.told.voters; v++) {
            sum += o.purses[v];
        }
        return sum;
    }

    public int step(int k, int what) throws NoSuchElementException {
        Outcome o = result(EQUAL_SHARES);
        if (k < 0 || k >= o.size) {
            throw new NoSuchElementException("not so many are chosen");
        }
        needWhat(what, 2);
        switch (what) {
            case 0: return o.prices[k];
            case 1: return o.payers[k];
            default: return o.emptied[k];
        }
    }

    public int price(int project, int k) throws NoSuchElementException {
        needProject(project);
        Outcome o = result(EQUAL_SHARES);
        if (k < 0 || k > o.size) {
            throw new NoSuchElementException("not so many are chosen");
        }
        return chooser.shares.priceBehind(poll, o, project, k);
    }

    // ---- groups

    public int group(int set, int what) throws NoSuchElementException {
        needGroup(set);
        needWhat(what, 3);
        int members = poll.members(set);
        switch (what) {
            case 0: return members;
            case 1: return Integer.bitCount(members);
            case 2: return poll.told.costOf(set);
            default: return poll.isDue(members, poll.told.costOf(set)) ? 1 : 0;
        }
    }

    public boolean isServed(int set, int rule, boolean nearly) throws NoSuchElementException {
        needGroup(set);
        needRule(rule);
        return groupsLook.serves(poll, result(rule).bits, set, nearly);
    }

    public int groups(int rule, int what) throws NoSuchElementException {
        needRule(rule);
        needWhat(what, Groups.FACTS - 1);
        Outcome o = result(rule);
        if (!o.isLookedAt) {
            groupsLook.lookAt(poll, o);
        }
        return o.groupFacts[what];
    }

    // ---- what would be

    public int away(int rule, int voter) throws NoSuchElementException {
        needRule(rule);
        needVoter(voter);
        trial.copyFrom(poll);
        trial.told.dropVoter(voter);
        trial.tally();
        return tried(rule);
    }

    public int with(int rule, int budget) throws NoSuchElementException, IllegalArgumentException {
        needRule(rule);
        allow(budget, 0, BUDGET_TOP);
        trial.copyFrom(poll);
        trial.told.money = budget;
        return tried(rule);
    }

    public int voting(int rule, int voter, int project, int score)
            throws NoSuchElementException, IllegalArgumentException {
        needRule(rule);
        needVoter(voter);
        needProject(project);
        allow(score, 0, SCORE_TOP);
        return triedScore(rule, voter, project, score);
    }

    public int ride(int rule, int voter, int what) throws NoSuchElementException {
        needRule(rule);
        needVoter(voter);
        needWhat(what, 1);
        int asItIs = poll.worthTo(voter, result(rule).bits);
        int most = 0;
        int by = NONE;
        for (int p = 0; p < poll.told.projects; p++) {
            if (poll.told.scores[p * VOTERS + voter] > 0) {
                int more = poll.worthTo(voter, triedScore(rule, voter, p, 0)) - asItIs;
                if (more > most) {
                    most = more;
                    by = p;
                }
            }
        }
        return what == 0 ? most : by;
    }

    public int push(int rule, int project) throws NoSuchElementException {
        needRule(rule);
        needProject(project);
        if (result(rule).has(project)) {
            return 0;
        }
        trial.copyFrom(poll);
        int pushing = 0;
        for (int v = 0; v < poll.told.voters; v++) {
            if (poll.told.scores[project * VOTERS + v] == 0) {
                trial.told.scores[project * VOTERS + v] = SCORE_TOP;
                trial.tallyOne(project);
                pushing++;
                if (isIn(project, tried(rule))) {
                    return pushing;
                }
            }
        }
        return NONE;
    }

    public int discount(int rule, int project) throws NoSuchElementException {
        needRule(rule);
        needProject(project);
        if (result(rule).has(project)) {
            return 0;
        }
        trial.copyFrom(poll);
        for (int tenths = 1; tenths < TENTHS; tenths++) {
            int less = poll.told.costs[project] * (TENTHS - tenths) / TENTHS;
            trial.told.costs[project] = Math.max(1, less);
            trial.tallyOne(project);
            if (isIn(project, tried(rule))) {
                return tenths;
            }
        }
        return NONE;
    }

    private int triedScore(int rule, int voter, int project, int score) {
        trial.copyFrom(poll);
        trial.told.scores[project * VOTERS + voter] = score;
        trial.tallyOne(project);
        chooser.choose(rule, trial, trialOutcome);
        return trialOutcome.bits;
    }

    private int tried(int rule) {
        chooser.choose(rule, trial, trialOutcome);
        return trialOutcome.bits;
    }

    private static boolean isIn(int project, int set) {
        return (set >> project & 1) != 0;
    }

    // ---- acts

    public int budget(int v) throws IllegalArgumentException {
        allow(v, 0, BUDGET_TOP);
        history.keep(poll.told);
        int was = poll.told.money;
        poll.told.money = v;
        refresh();
        return was;
    }

    public int cost(int project, int v) throws NoSuchElementException, IllegalArgumentException {
        needProject(project);
        allow(v, 1, COST_TOP);
        history.keep(poll.told);
        int was = poll.told.costs[project];
        poll.told.costs[project] = v;
        refresh();
        return was;
    }

    public int score(int voter, int project, int v) throws NoSuchElementException, IllegalArgumentException {
        needVoter(voter);
        needProject(project);
        allow(v, 0, SCORE_TOP);
        history.keep(poll.told);
        int was = poll.told.scores[project * VOTERS + voter];
        poll.told.scores[project * VOTERS + voter] = v;
        refresh();
        return was;
    }

    public int go(boolean voter, int i) throws NoSuchElementException {
        if (voter) {
            needVoter(i);
            history.keep(poll.told);
            poll.told.dropVoter(i);
        } else {
            needProject(i);
            history.keep(poll.told);
            poll.told.dropProject(i);
        }
        refresh();
        return voter ? poll.told.voters : poll.told.projects;
    }

    public int undo() {
        if (history.size == 0) {
            return NONE;
        }
        history.giveBack(poll.told);
        refresh();
        return history.size;
    }

    public void image() {
        kept.copyFrom(poll.told);
        isKept = true;
    }

    public boolean back() {
        if (!isKept) {
            return false;
        }
        startFrom(kept);
        return true;
    }

    // ---- the outcome of a rule, made once for each state

    private Outcome result(int rule) {
        Outcome o = outcomes[rule];
        // raising is dear, and what is filled up begins with what it gives
        int first = rule == FILLED || rule == RAISED_AND_FILLED ? rule - 1 : rule;
        if (!isKnown(first)) {
            chooser.choose(first, poll, outcomes[first]);
            known |= 1 << first;
        }
        if (!isKnown(rule)) {
            o.copyFrom(outcomes[first]);
            chooser.fillUp(poll, o, false);
            known |= 1 << rule;
        }
        return o;
    }

    private boolean isKnown(int rule) {
        return (known >> rule & 1) != 0;
    }

    // ---- what may be asked for

    private static void needWhat(int what, int top) {
        if (what < 0 || what > top) {
            throw new NoSuchElementException("no such what");
        }
    }

    private static void needRule(int rule) {
        if (rule < 0 || rule >= RULES) {
            throw new NoSuchElementException("no such rule");
        }
    }

    private static void needPayingRule(int rule) {
        if (rule < 0 || rule >= PAYING_RULES) {
            throw new NoSuchElementException("no such rule");
        }
    }

    private void needProject(int project) {
        if (project < 0 || project >= poll.told.projects) {
            throw new NoSuchElementException("no such project");
        }
    }

    private void needVoter(int voter) {
        if (voter < 0 || voter >= poll.told.voters) {
            throw new NoSuchElementException("no such voter");
        }
    }

    private void needGroup(int set) {
        if (set < 1 || set >= 1 << poll.told.projects) {
            throw new NoSuchElementException("no such group");
        }
    }

    private static void allow(int value, int low, int high) {
        if (value < low || value > high) {
            throw new IllegalArgumentException("not in its bounds");
        }
    }

    /** What a project is worth, in the order of a reckoner: values, then the sign that joins them; never changed. */
    private static final class Law {
        // below 0, so that numbers stand for themselves
        static final int SCORE = -1;
        static final int COST = -2;
        static final int LIKED = -3;
        static final int ALL_VOTERS = -4;
        static final int PLUS = -5;
        static final int MINUS = -6;
        static final int TIMES = -7;
        static final int BY = -8;
        // two values wait at most in each of the brackets and outside of them, and one comes
        static final int DEPTH = 2 * (OPEN_TOP + 1) + 1;

        private final int[] code;

        Law(int[] code) {
            this.code = code;
        }

        int worthFor(int score, int cost, int liked, int voters, int[] stack) {
            int top = 0;
            for (int i = 0; i < code.length; i++) {
                int c = code[i];
                if (c > PLUS && top < stack.length) {
                    stack[top] = valueOf(c, score, cost, liked, voters);
                    top++;
                } else if (c <= PLUS && top >= 2) {
                    top--;
                    stack[top - 1] = join(c, stack[top - 1], stack[top]);
                }
            }
            int value = top > 0 ? stack[0] : 0;
            return Math.max(0, Math.min(WORTH_TOP, value));
        }

        private static int valueOf(int c, int score, int cost, int liked, int voters) {
            switch (c) {
                case SCORE: return score;
                case COST: return cost;
                case LIKED: return liked;
                case ALL_VOTERS: return voters;
                default: return c;
            }
        }

        private static int join(int sign, int a, int b) {
            switch (sign) {
                case PLUS: return a + b;
                case MINUS: return a - b;
                case TIMES: return a * b;
                default: return b == 0 ? 0 : a / b;
            }
        }
    }

    /** What an election tells; scores stand project by project, as most walks go over the voters of one. */
    private static final class Election {
        int money = 0;
        int projects = 0;
        int voters = 0;
        Law law = null;
        final int[] costs = new int[PROJECTS];
        final int[] names = new int[PROJECTS * LETTERS];
        final int[] scores = new int[PROJECTS * VOTERS];

        void clear() {
            money = 0;
            projects = 0;
            voters = 0;
            law = null;
            Arrays.fill(costs, 0);
            Arrays.fill(names, 0);
            Arrays.fill(scores, 0);
        }

        void copyFrom(Election other) {
            money = other.money;
            projects = other.projects;
            voters = other.voters;
            law = other.law;
            System.arraycopy(other.costs, 0, costs, 0, PROJECTS);
            System.arraycopy(other.names, 0, names, 0, PROJECTS * LETTERS);
            System.arraycopy(other.scores, 0, scores, 0, PROJECTS * VOTERS);
        }

        int costOf(int set) {
            int sum = 0;
            for (int p = 0; p < projects; p++) {
                if (isIn(p, set)) {
                    sum += costs[p];
                }
            }
            return sum;
        }

        void dropProject(int project) {
            projects--;
            for (int p = project; p < projects; p++) {
                costs[p] = costs[p + 1];
                System.arraycopy(names, (p + 1) * LETTERS, names, p * LETTERS, LETTERS);
                System.arraycopy(scores, (p + 1) * VOTERS, scores, p * VOTERS, VOTERS);
            }
        }

        void dropVoter(int voter) {
            voters--;
            for (int p = 0; p < projects; p++) {
                for (int v = voter; v < voters; v++) {
                    scores[p * VOTERS + v] = scores[p * VOTERS + v + 1];
                }
            }
        }
    }

    /** An election with what follows from it for each project and voter. */
    private static final class Poll {
        final Election told = new Election();
        final int[] liked = new int[PROJECTS];
        final int[] all = new int[PROJECTS];
        /** Voters to whom a project has a worth above 0, as bits. */
        final int[] fans = new int[PROJECTS];
        final int[] worth = new int[PROJECTS * VOTERS];
        private final int[] byScore = new int[SCORE_TOP + 1];
        private final int[] stack = new int[Law.DEPTH];

        void copyFrom(Poll other) {
            told.copyFrom(other.told);
            System.arraycopy(other.liked, 0, liked, 0, PROJECTS);
            System.arraycopy(other.all, 0, all, 0, PROJECTS);
            System.arraycopy(other.fans, 0, fans, 0, PROJECTS);
            System.arraycopy(other.worth, 0, worth, 0, PROJECTS * VOTERS);
        }

        void tally() {
            for (int p = 0; p < told.projects; p++) {
                tallyOne(p);
            }
        }

        void tallyOne(int project) {
            int row = project * VOTERS;
            liked[project] = countLiked(row);
            Arrays.fill(byScore, NONE);
            int sum = 0;
            int fanBits = 0;
            for (int v = 0; v < told.voters; v++) {
                int w = worthByScore(project, told.scores[row + v]);
                worth[row + v] = w;
                sum += w;
                if (w > 0) {
                    fanBits |= 1 << v;
                }
            }
            all[project] = sum;
            fans[project] = fanBits;
        }

        private int countLiked(int row) {
            int sum = 0;
            for (int v = 0; v < told.voters; v++) {
                if (told.scores[row + v] > 0) {
                    sum++;
                }
            }
            return sum;
        }

        private int worthByScore(int project, int score) {
            if (score < 1 || score > SCORE_TOP) {
                return 0;
            }
            Law law = told.law;
            if (law == null) {
                return 1;
            }
            if (byScore[score] == NONE) {
                byScore[score] = law.worthFor(score, told.costs[project], liked[project], told.voters, stack);
            }
            return byScore[score];
        }

        int worthTo(int voter, int set) {
            int sum = 0;
            for (int p = 0; p < told.projects; p++) {
                if (isIn(p, set)) {
                    sum += worth[p * VOTERS + voter];
                }
            }
            return sum;
        }

        int worthToAll(int set) {
            int sum = 0;
            for (int p = 0; p < told.projects; p++) {
                if (isIn(p, set)) {
                    sum += all[p];
                }
            }
            return sum;
        }

        int worthToWorst(int set) {
            int least = told.voters == 0 ? 0 : worthTo(0, set);
            for (int v = 1; v < told.voters; v++) {
                least = Math.min(least, worthTo(v, set));
            }
            return least;
        }

        int unserved(int set) {
            int sum = 0;
            for (int v = 0; v < told.voters; v++) {
                if (worthTo(v, set) == 0) {
                    sum++;
                }
            }
            return sum;
        }

        int members(int set) {
            int voters = (1 << told.voters) - 1;
            for (int p = 0; p < told.projects; p++) {
                if (isIn(p, set)) {
                    voters &= fans[p];
                }
            }
            return voters;
        }

        boolean isDue(int members, int cost) {
            return members != 0 && Integer.bitCount(members) * told.money >= cost * told.voters;
        }
    }

    /** What a rule chooses, and who pays what for it. */
    private static final class Outcome {
        final int[] order = new int[PROJECTS];
        int size = 0;
        int bits = 0;
        int spent = 0;
        int raised = 0;
        /** What was paid for by shares; of all others what stands in paid is old. */
        private int bought = 0;
        private final int[] paid = new int[PROJECTS * VOTERS];
        final int[] purses = new int[VOTERS];
        final int[] prices = new int[PROJECTS];
        final int[] payers = new int[PROJECTS];
        final int[] emptied = new int[PROJECTS];
        boolean isLookedAt = false;
        final int[] groupFacts = new int[Groups.FACTS];

        void clear() {
            size = 0;
            bits = 0;
            spent = 0;
            raised = 0;
            bought = 0;
            isLookedAt = false;
        }

        void copyFrom(Outcome other) {
            size = other.size;
            bits = other.bits;
            spent = other.spent;
            raised = other.raised;
            bought = other.bought;
            isLookedAt = false;
            System.arraycopy(other.order, 0, order, 0, PROJECTS);
            System.arraycopy(other.paid, 0, paid, 0, PROJECTS * VOTERS);
            System.arraycopy(other.purses, 0, purses, 0, VOTERS);
        }

        boolean has(int project) {
            return (bits >> project & 1) != 0;
        }

        void add(int project, int cost) {
            if (size < PROJECTS) {
                order[size] = project;
                size++;
                bits |= 1 << project;
                spent += cost;
            }
        }

        /** Adds what is paid at a price: each voter by number, until all is paid. */
        void buy(Poll poll, int project, int price) {
            int row = project * VOTERS;
            int rest = poll.told.costs[project] * MILLS;
            int paying = 0;
            int empty = 0;
            for (int v = 0; v < poll.told.voters; v++) {
                long share = Math.min((long) price * poll.worth[row + v], Math.min(purses[v], rest));
                paid[row + v] = (int) share;
                purses[v] -= (int) share;
                rest -= (int) share;
                if (share > 0) {
                    paying++;
                    empty += purses[v] == 0 ? 1 : 0;
                }
            }
            if (size < PROJECTS) {
                prices[size] = price;
                payers[size] = paying;
                emptied[size] = empty;
            }
            bought |= 1 << project;
            add(project, poll.told.costs[project]);
        }

        int paidBy(int voter, int project) {
            return isIn(project, bought) ? paid[project * VOTERS + voter] : 0;
        }
    }

    /** Equal shares, and purses raised. */
    private static final class Shares {
        /** The price, or less, of each project; NONE stays, as purses only lose in one go, and for what is chosen. */
        private final int[] bounds = new int[PROJECTS];
        private final int[] pursesThen = new int[VOTERS];

        void share(Poll poll, Outcome o, int raised) {
            Election told = poll.told;
            o.clear();
            o.raised = raised;
            Arrays.fill(o.purses, purseOf(poll, raised));
            for (int p = 0; p < told.projects; p++) {
                bounds[p] = firstBound(poll, p);
            }
            for (int round = 0; round < told.projects && o.spent <= told.money; round++) {
                int best = cheapest(poll, o.purses);
                if (best == NONE) {
                    return;
                }
                o.buy(poll, best, bounds[best]);
                bounds[best] = NONE;
            }
        }

        private static int purseOf(Poll poll, int raised) {
            int voters = poll.told.voters;
            return voters > 0 ? poll.told.money * MILLS / voters + raised * MILLS : 0;
        }

        void raise(Poll poll, Outcome o) {
            for (int raised = 0; raised <= RAISES; raised++) {
                if (raised < RAISES && !mayEnd(poll, purseOf(poll, raised))) {
                    continue;
                }
                share(poll, o, raised);
                if (o.spent > poll.told.money) {
                    share(poll, o, Math.max(0, raised - 1));
                    return;
                }
                if (o.size == poll.told.projects) {
                    return;
                }
            }
        }

        /** Where some project costs more than all its fans have, and the rest fits, such purses end nothing. */
        private static boolean mayEnd(Poll poll, int purse) {
            Election told = poll.told;
            int cost = 0;
            int many = 0;
            for (int p = 0; p < told.projects; p++) {
                if ((long) Integer.bitCount(poll.fans[p]) * purse >= told.costs[p] * MILLS) {
                    cost += told.costs[p];
                    many++;
                }
            }
            return many == told.projects || cost > told.money;
        }

        /**
         * The project that is next, its price in bounds. A bound that is not of this round is made good only when it
         * is the least: whatever else has a greater one can't be ahead.
         */
        private int cheapest(Poll poll, int[] purses) {
            int fresh = 0;
            for (int tries = 0; tries <= 2 * PROJECTS; tries++) {
                int best = leastBound(poll);
                if (best == NONE || isIn(best, fresh)) {
                    return best;
                }
                bounds[best] = priceFrom(poll, purses, best, bounds[best]);
                fresh |= 1 << best;
            }
            return NONE;
        }

        private int leastBound(Poll poll) {
            int[] liked = poll.liked;
            int projects = poll.told.projects;
            int best = NONE;
            int least = 0;
            for (int p = 0; p < projects; p++) {
                int bound = bounds[p];
                if (bound != NONE && (best == NONE || bound < least || bound == least && liked[p] > liked[best])) {
                    best = p;
                    least = bound;
                }
            }
            return best;
        }

        /** With purses without end the price would be this. */
        private static int firstBound(Poll poll, int project) {
            int all = poll.all[project];
            return all > 0 ? (poll.told.costs[project] * MILLS + all - 1) / all : NONE;
        }

        /**
         * The price, where it is known to be no less than r. What is given grows ever slower with r, so to go on as
         * if no more purses became empty never goes too far; and each try but the last finds one more that is empty.
         */
        private static int priceFrom(Poll poll, int[] purses, int project, int from) {
            int[] worth = poll.worth;
            int voters = poll.told.voters;
            int row = project * VOTERS;
            int target = poll.told.costs[project] * MILLS;
            int r = from;
            for (int tries = 0; tries <= VOTERS; tries++) {
                int given = 0;
                int open = 0;
                for (int v = 0; v < voters; v++) {
                    int w = worth[row + v];
                    if (w > 0) {
                        if ((long) r * w >= purses[v]) {
                            given += purses[v];
                        } else {
                            open += w;
                        }
                    }
                }
                if (given + (long) open * r >= target) {
                    return r;
                }
                if (open <= 0) {
                    return NONE;
                }
                r = (target - given + open - 1) / open;
            }
            return NONE;
        }

        int priceBehind(Poll poll, Outcome o, int project, int k) {
            System.arraycopy(o.purses, 0, pursesThen, 0, VOTERS);
            for (int i = 0; i < o.size && i < PROJECTS; i++) {
                if (i < k && o.order[i] == project) {
                    return NONE;
                }
                if (i >= k) {
                    giveBack(poll, o, o.order[i]);
                }
            }
            int from = firstBound(poll, project);
            return from == NONE ? NONE : priceFrom(poll, pursesThen, project, from);
        }

        private void giveBack(Poll poll, Outcome o, int project) {
            for (int v = 0; v < poll.told.voters; v++) {
                pursesThen[v] += o.paidBy(v, project);
            }
        }
    }

    /**
     * Goes through all sets of projects, as bits, from the least on. What belongs to a set is kept at its least
     * project: it is made from that of the set without it, which has been gone through and still stands at its own.
     */
    private static final class Search {
        private final int[] costs = new int[PROJECTS + 1];
        private final int[] worths = new int[PROJECTS + 1];
        private final int[] toVoters = new int[(PROJECTS + 1) * VOTERS];
        /** Of all projects that are less than one. */
        private final int[] lesser = new int[PROJECTS];
        private final int[] lesserToVoters = new int[PROJECTS * VOTERS];

        static int least(int set) {
            return set == 0 ? PROJECTS : Math.min(PROJECTS, Integer.numberOfTrailingZeros(set));
        }

        int bestSet(Poll poll, boolean worstFirst) {
            sumLesser(poll);
            int best = 0;
            int bestToWorst = 0;
            int bestWorth = 0;
            int bestCost = 0;
            int stride = 1;
            for (int set = 1; set < 1 << poll.told.projects; set += Math.max(1, stride)) {
                int low = least(set);
                int above = least(set & set - 1);
                if (low >= PROJECTS) {
                    return best;
                }
                int cost = costs[above] + poll.told.costs[low];
                int worth = worths[above] + poll.all[low];
                boolean isOut = cost > poll.told.money || !worstFirst && worth + lesser[low] < bestWorth;
                int toWorst = isOut || !worstFirst ? 0 : worstWith(poll, low, above, bestToWorst);
                if (isOut || toWorst == NONE) {
                    // neither is any better that has lesser projects too
                    stride = set & -set;
                    continue;
                }
                stride = 1;
                costs[low] = cost;
                worths[low] = worth;
                boolean isMost = worth > bestWorth || worth == bestWorth && cost < bestCost;
                if (toWorst > bestToWorst || toWorst == bestToWorst && isMost) {
                    best = set;
                    bestToWorst = toWorst;
                    bestWorth = worth;
                    bestCost = cost;
                }
            }
            return best;
        }

        private void sumLesser(Poll poll) {
            for (int p = 0; p + 1 < poll.told.projects; p++) {
                lesser[p + 1] = lesser[p] + poll.all[p];
                for (int v = 0; v < poll.told.voters; v++) {
                    lesserToVoters[(p + 1) * VOTERS + v] = lesserToVoters[p * VOTERS + v] + poll.worth[p * VOTERS + v];
                }
            }
        }

        /** The worth to the voter to whom it is least; NONE: with all lesser projects too it is below that asked. */
        private int worstWith(Poll poll, int low, int above, int asked) {
            int[] worth = poll.worth;
            int voters = poll.told.voters;
            int worst = voters == 0 ? 0 : PROJECTS * WORTH_TOP;
            for (int v = 0; v < voters; v++) {
                int sum = toVoters[above * VOTERS + v] + worth[low * VOTERS + v];
                if (sum + lesserToVoters[low * VOTERS + v] < asked) {
                    return NONE;
                }
                toVoters[low * VOTERS + v] = sum;
                worst = Math.min(worst, sum);
            }
            return worst;
        }
    }

    /** The nine rules. */
    private static final class Chooser {
        final Shares shares = new Shares();
        private final Search search = new Search();
        private final long[] emptySince = new long[VOTERS];

        void choose(int rule, Poll poll, Outcome o) {
            o.clear();
            switch (rule) {
                case EQUAL_SHARES:
                    shares.share(poll, o, 0);
                    break;
                case FILLED:
                    shares.share(poll, o, 0);
                    fillUp(poll, o, false);
                    break;
                case RAISED:
                    shares.raise(poll, o);
                    break;
                case RAISED_AND_FILLED:
                    shares.raise(poll, o);
                    fillUp(poll, o, false);
                    break;
                case GREEDY:
                    fillUp(poll, o, false);
                    break;
                case GREEDY_BY_COST:
                    fillUp(poll, o, true);
                    break;
                case MOST:
                    addAll(poll, o, search.bestSet(poll, false));
                    break;
                case WORST_FIRST:
                    addAll(poll, o, search.bestSet(poll, true));
                    break;
                default:
                    keepTime(poll, o);
                    break;
            }
        }

        private static void addAll(Poll poll, Outcome o, int set) {
            for (int p = 0; p < poll.told.projects; p++) {
                if (isIn(p, set)) {
                    o.add(p, poll.told.costs[p]);
                }
            }
        }

        void fillUp(Poll poll, Outcome o, boolean byCost) {
            int seen = o.bits;
            for (int round = 0; round < poll.told.projects; round++) {
                int best = NONE;
                for (int p = 0; p < poll.told.projects; p++) {
                    if (!isIn(p, seen) && (best == NONE || isGreedier(poll, p, best, byCost))) {
                        best = p;
                    }
                }
                if (best == NONE) {
                    return;
                }
                seen |= 1 << best;
                if (o.spent + poll.told.costs[best] <= poll.told.money) {
                    o.add(best, poll.told.costs[best]);
                }
            }
        }

        private static boolean isGreedier(Poll poll, int p, int best, boolean byCost) {
            int mine = greed(poll, p, byCost);
            int its = greed(poll, best, byCost);
            return mine > its || mine == its && poll.told.costs[p] < poll.told.costs[best];
        }

        private static int greed(Poll poll, int p, boolean byCost) {
            int cost = poll.told.costs[p];
            return byCost && cost > 0 ? poll.all[p] * 1000 / cost : poll.all[p];
        }

        private void keepTime(Poll poll, Outcome o) {
            Arrays.fill(emptySince, 0L);
            for (int round = 0; round < poll.told.projects; round++) {
                int next = NONE;
                long tick = 0;
                for (int p = 0; p < poll.told.projects; p++) {
                    if (!o.has(p) && poll.liked[p] > 0) {
                        long due = dueAt(poll, p);
                        boolean isAhead = next == NONE || due < tick
                                || due == tick && poll.liked[p] > poll.liked[next];
                        next = isAhead ? p : next;
                        tick = isAhead ? due : tick;
                    }
                }
                if (next == NONE || o.spent + poll.told.costs[next] > poll.told.money) {
                    return;
                }
                o.add(next, poll.told.costs[next]);
                emptyPurses(poll, next, tick);
            }
        }

        /** A purse holds a mill for each tick since it was empty. */
        private long dueAt(Poll poll, int project) {
            long sum = (long) poll.told.costs[project] * MILLS;
            long liking = 0;
            for (int v = 0; v < poll.told.voters; v++) {
                if (poll.told.scores[project * VOTERS + v] > 0) {
                    sum += emptySince[v];
                    liking++;
                }
            }
            return liking > 0 ? (sum + liking - 1) / liking : 0;
        }

        private void emptyPurses(Poll poll, int project, long tick) {
            for (int v = 0; v < poll.told.voters; v++) {
                if (poll.told.scores[project * VOTERS + v] > 0) {
                    emptySince[v] = tick;
                }
            }
        }
    }

    /** Groups that are due, gone through as Search does. */
    private static final class Groups {
        static final int FACTS = 5;

        private final int[] costs = new int[PROJECTS + 1];
        private final int[] members = new int[PROJECTS + 1];
        private final int[] wants = new int[(PROJECTS + 1) * VOTERS];
        private final int[] bestMissing = new int[(PROJECTS + 1) * VOTERS];
        private final int[] has = new int[VOTERS];
        private boolean isFull = false;
        private boolean isNear = false;

        boolean serves(Poll poll, int chosenBits, int set, boolean nearly) {
            int membersBits = poll.members(set);
            for (int v = 0; v < poll.told.voters; v++) {
                int got = poll.worthTo(v, chosenBits) + (nearly ? mostOf(poll, v, set & ~chosenBits) : 0);
                if (isIn(v, membersBits) && got >= poll.worthTo(v, set)) {
                    return true;
                }
            }
            return false;
        }

        private static int mostOf(Poll poll, int voter, int set) {
            int most = 0;
            for (int p = 0; p < poll.told.projects; p++) {
                if (isIn(p, set)) {
                    most = Math.max(most, poll.worth[p * VOTERS + voter]);
                }
            }
            return most;
        }

        void lookAt(Poll poll, Outcome o) {
            begin(poll, o);
            int stride = 1;
            for (int set = 1; set < 1 << poll.told.projects; set += Math.max(1, stride)) {
                int low = Search.least(set);
                int above = Search.least(set & set - 1);
                if (low >= PROJECTS) {
                    return;
                }
                int cost = costs[above] + poll.told.costs[low];
                int who = members[above] & poll.fans[low];
                if (!poll.isDue(who, cost)) {
                    // with lesser projects too it has no more members and costs no less
                    stride = set & -set;
                    continue;
                }
                stride = 1;
                costs[low] = cost;
                members[low] = who;
                ask(poll, low, above, o.has(low));
                note(o.groupFacts, set);
            }
        }

        private void begin(Poll poll, Outcome o) {
            members[PROJECTS] = (1 << poll.told.voters) - 1;
            for (int v = 0; v < poll.told.voters; v++) {
                has[v] = poll.worthTo(v, o.bits);
            }
            Arrays.fill(o.groupFacts, 0);
            o.groupFacts[3] = NONE;
            o.groupFacts[4] = NONE;
            o.isLookedAt = true;
        }

        private void ask(Poll poll, int low, int above, boolean isChosen) {
            isFull = false;
            isNear = false;
            for (int v = 0; v < poll.told.voters; v++) {
                if (isIn(v, members[low])) {
                    int w = poll.worth[low * VOTERS + v];
                    int want = wants[above * VOTERS + v] + w;
                    int missing = Math.max(bestMissing[above * VOTERS + v], isChosen ? 0 : w);
                    wants[low * VOTERS + v] = want;
                    bestMissing[low * VOTERS + v] = missing;
                    isFull |= has[v] >= want;
                    isNear |= has[v] + missing >= want;
                }
            }
        }

        private void note(int[] facts, int set) {
            facts[0]++;
            if (!isFull) {
                facts[1]++;
                facts[3] = facts[3] == NONE ? set : facts[3];
            }
            if (!isNear) {
                facts[2]++;
                facts[4] = facts[4] == NONE ? set : facts[4];
            }
        }
    }

    /** The latest acts, each as the election that was ahead of it, in a ring. */
    private static final class History {
        private final Election[] ring = new Election[ACTS];
        private int end = 0;
        int size = 0;

        History() {
            for (int i = 0; i < ACTS; i++) {
                ring[i] = new Election();
            }
        }

        void keep(Election now) {
            ring[end].copyFrom(now);
            end = (end + 1) % ACTS;
            size = Math.min(ACTS, size + 1);
        }

        void giveBack(Election now) {
            end = (end + ACTS - 1) % ACTS;
            now.copyFrom(ring[end]);
            size--;
        }
    }

    /** The tape, and the election that its text tells, read token by token. */
    private static final class Reader {
        private static final int END = 0;
        private static final int WORD = 1;
        private static final int NUMBER = 2;
        private static final int SIGN = 3;
        /** Above all bounds, and far from where ints wrap. */
        private static final int TOO_MUCH = 1000000;
        private static final int BRACKET = 0;

        final Election told = new Election();
        int place = NONE;

        private final byte[] text = new byte[TEXT];
        int tapeSize = 0;
        private int fault = 0;
        private int length = 0;
        private int at = 0;
        private int kind = END;
        private int start = 0;
        /** Of a WORD its length, of a NUMBER what it counts as, of a SIGN the byte. */
        private int value = 0;

        private final int[] code = new int[TEXT];
        private int codeSize = 0;
        private final int[] waiting = new int[TEXT];
        private int waits = 0;
        private int open = 0;

        void addBytes(int number) {
            for (int shift = 24; shift >= 0 && tapeSize < TEXT; shift -= 8) {
                text[tapeSize] = (byte) (number >>> shift);
                tapeSize++;
            }
        }

        /** 0, or the fault, then its place stands in place; the tape is empty behind it. */
        int readText(int n) {
            told.clear();
            length = Math.min(n, tapeSize);
            tapeSize = 0;
            at = 0;
            fault = 0;
            for (int lines = 0; lines <= TEXT; lines++) {
                next();
                if (kind == END || !readLine()) {
                    break;
                }
            }
            return fault;
        }

        private boolean readLine() {
            if (isWord("budget")) {
                return readBudget() && readLineEnd();
            }
            if (isWord("project")) {
                return readProject() && readLineEnd();
            }
            if (isWord("votes")) {
                return readVotes();
            }
            return isWord("law") ? readLaw() : wrong(1);
        }

        private boolean wrong(int what) {
            fault = what;
            place = start;
            return false;
        }

        private boolean readLineEnd() {
            next();
            return isSign(';') || wrong(1);
        }

        private boolean readNumber(int low, int high) {
            next();
            if (kind != NUMBER) {
                return wrong(1);
            }
            return value >= low && value <= high || wrong(2);
        }

        private boolean readBudget() {
            if (!readNumber(0, BUDGET_TOP)) {
                return false;
            }
            told.money = value;
            return true;
        }

        private boolean readProject() {
            int project = told.projects;
            if (project >= PROJECTS) {
                return wrong(4);
            }
            next();
            if (!isName()) {
                return wrong(1);
            }
            if (named() != NONE) {
                return wrong(3);
            }
            for (int i = 0; i < LETTERS; i++) {
                told.names[project * LETTERS + i] = letter(i);
            }
            if (!readNumber(1, COST_TOP)) {
                return false;
            }
            told.costs[project] = value;
            told.projects++;
            return true;
        }

        private boolean readVotes() {
            if (!readNumber(1, GROUP_TOP)) {
                return false;
            }
            int first = told.voters;
            int end = first + value;
            if (end > VOTERS) {
                return wrong(4);
            }
            told.voters = end;
            int seen = 0;
            for (int names = 0; names <= PROJECTS; names++) {
                next();
                if (isSign(';')) {
                    return true;
                }
                int project = isName() ? named() : NONE;
                if (project == NONE || isIn(project, seen)) {
                    return wrong(isName() ? 3 : 1);
                }
                seen |= 1 << project;
                if (!readNumber(0, SCORE_TOP)) {
                    return false;
                }
                for (int v = first; v < end; v++) {
                    told.scores[project * VOTERS + v] = value;
                }
            }
            return wrong(1);
        }

        private boolean readLaw() {
            if (told.law != null) {
                return wrong(5);
            }
            codeSize = 0;
            waits = 0;
            open = 0;
            boolean wantsPart = true;
            for (int tokens = 0; tokens <= TEXT; tokens++) {
                next();
                if (wantsPart) {
                    boolean opens = isSign('(');
                    if (opens ? !readOpen() : !readPart()) {
                        return false;
                    }
                    wantsPart = opens;
                } else if (isSign(';') && open == 0) {
                    putWaiting(1);
                    told.law = new Law(Arrays.copyOf(code, codeSize));
                    return true;
                } else if (isSign(')') && open > 0) {
                    readClose();
                } else if (operator() != 0) {
                    readOperator(operator());
                    wantsPart = true;
                } else {
                    return wrong(1);
                }
            }
            return wrong(1);
        }

        private boolean readOpen() {
            if (open >= OPEN_TOP) {
                return wrong(4);
            }
            open++;
            holdBack(BRACKET);
            return true;
        }

        private boolean readPart() {
            if (kind == NUMBER) {
                put(value);
                return value <= WORTH_TOP || wrong(2);
            }
            int word = isWord("score") ? Law.SCORE
                    : isWord("cost") ? Law.COST
                    : isWord("liked") ? Law.LIKED
                    : isWord("voters") ? Law.ALL_VOTERS
                    : 0;
            put(word);
            return word != 0 || wrong(1);
        }

        private void readClose() {
            putWaiting(1);
            waits = Math.max(0, waits - 1);
            open--;
        }

        private void readOperator(int sign) {
            putWaiting(strength(sign));
            holdBack(sign);
        }

        private int operator() {
            if (kind != SIGN) {
                return 0;
            }
            switch (value) {
                case '+': return Law.PLUS;
                case '-': return Law.MINUS;
                case '*': return Law.TIMES;
                case '/': return Law.BY;
                default: return 0;
            }
        }

        private static int strength(int sign) {
            return sign == BRACKET ? 0 : sign == Law.PLUS || sign == Law.MINUS ? 1 : 2;
        }

        /** What waits since the last bracket and binds no less goes ahead of what comes. */
        private void putWaiting(int strength) {
            for (int i = waits - 1; i >= 0 && i < waiting.length && strength(waiting[i]) >= strength; i--) {
                put(waiting[i]);
                waits = i;
            }
        }

        private void put(int c) {
            if (codeSize < code.length) {
                code[codeSize] = c;
                codeSize++;
            }
        }

        private void holdBack(int sign) {
            if (waits < waiting.length) {
                waiting[waits] = sign;
                waits++;
            }
        }

        private void next() {
            while (at < length && isBlank(text[at])) {
                at++;
            }
            start = at;
            if (at >= length) {
                kind = END;
            } else if (isLetter(text[at])) {
                readWord();
            } else if (isFigure(text[at])) {
                readFigures();
            } else {
                kind = SIGN;
                value = text[at];
                at++;
            }
        }

        private void readWord() {
            kind = WORD;
            while (at < length && isLetter(text[at])) {
                at++;
            }
            value = at - start;
        }

        private void readFigures() {
            kind = NUMBER;
            value = 0;
            while (at < length && isFigure(text[at])) {
                value = Math.min(TOO_MUCH, value * 10 + text[at] - '0');
                at++;
            }
        }

        private static boolean isBlank(int b) {
            return b == 32 || b == 10;
        }

        private static boolean isLetter(int b) {
            return b >= 'a' && b <= 'z';
        }

        private static boolean isFigure(int b) {
            return b >= '0' && b <= '9';
        }

        private boolean isSign(int sign) {
            return kind == SIGN && value == sign;
        }

        private boolean isWord(String word) {
            if (kind != WORD || value != word.length()) {
                return false;
            }
            for (int i = 0; i < word.length() && start + i < length; i++) {
                if (text[start + i] != word.charAt(i)) {
                    return false;
                }
            }
            return true;
        }

        /** The fourth word that is no name has more letters than a name. */
        private boolean isName() {
            return kind == WORD && value <= LETTERS && !isWord("budget") && !isWord("votes") && !isWord("law");
        }

        private int letter(int i) {
            return i < value && start + i < length ? text[start + i] - 'a' + 1 : 0;
        }

        private int named() {
            for (int p = 0; p < told.projects; p++) {
                boolean isSame = true;
                for (int i = 0; i < LETTERS; i++) {
                    isSame &= told.names[p * LETTERS + i] == letter(i);
                }
                if (isSame) {
                    return p;
                }
            }
            return NONE;
        }
    }
}
