/** Each promise's boundaries: what may be asked for, what just not, which exception, and that nothing changes. */
public final class CallEdgesTest extends Checks {
    private static final int[] NO_RULE = {-1, 9, 10, 32, 256, LOW, HIGH};
    private static final int[] NO_PAYING_RULE = {-1, 4, 5, 6, 7, 8, 9, LOW, HIGH};

    public static void main(String[] args) {
        newObject();
        feeding();
        electionLengths();
        electionChanges();
        faultPlaces();
        counts();
        projectFacts();
        votes();
        outcomes();
        chosenOnes();
        servedPaidLeft();
        stepsAndPrices();
        groupCalls();
        whatWouldBe();
        pushesAndDiscounts();
        changedValues();
        whichComesFirst();
        goingOnes();
        undoing();
        undoingAllKinds();
        ringOfActs();
        images();
        refusedCallsChangeNothing();
        questionsChangeNothing();
        fullQuestions();
        fullActs();
        finish("all edges of the calls hold");
    }

    /** Law, two acts, an image of something else, a fault told, a text on the tape. */
    private static void busy(SharedPurse x) {
        read(x, "project kept 7;budget 8;votes 2 kept 3;law score*2;");
        x.image();
        read(x, "project a 10;project b 20;budget 30;votes 2 a 1 b 2;votes 1 a 3;law score+liked;");
        x.budget(31);
        x.go(true, 0);
        read(x, "budget 1 ?");
        feed(x, "law voters;budget 5;");
    }

    private static void newObject() {
        says("1: An ELECTION without all");
        SharedPurse x = new SharedPurse();
        for (int what = 0; what <= 6; what++) {
            due("count " + what, x.count(what), 0);
        }
        due("fault", x.fault(), NONE);
        for (int rule = 0; rule <= 8; rule++) {
            int r = rule;
            for (int what = 0; what <= 6; what++) {
                due("outcome", x.outcome(rule, what), 0);
            }
            for (int what = 0; what <= 4; what++) {
                due("groups", x.groups(rule, what), what < 3 ? 0 : NONE);
            }
            due("with", x.with(rule, 99999), 0);
            noneSuch("chosen", () -> x.chosen(r, 0));
            noneSuch("served", () -> x.served(r, 0));
            noneSuch("away", () -> x.away(r, 0));
            noneSuch("ride", () -> x.ride(r, 0, 0));
            noneSuch("push", () -> x.push(r, 0));
            noneSuch("discount", () -> x.discount(r, 0));
            noneSuch("voting", () -> x.voting(r, 0, 0, 0));
        }
        due("left to all", x.left(0, NONE), 0);
        noneSuch("left", () -> x.left(0, 0));
        noneSuch("paid", () -> x.paid(0, 0, NONE));
        noneSuch("project", () -> x.project(0, 0));
        noneSuch("vote", () -> x.vote(0, 0, false));
        noneSuch("step", () -> x.step(0, 0));
        noneSuch("price", () -> x.price(0, 0));
        noneSuch("group", () -> x.group(1, 0));
        noneSuch("group", () -> x.group(0, 0));
        noneSuch("cost", () -> x.cost(0, 1));
        noneSuch("score", () -> x.score(0, 0, 1));
        noneSuch("go", () -> x.go(true, 0));
        noneSuch("go", () -> x.go(false, 0));
        due("undo", x.undo(), NONE);
        no("back", x.back());
        due("budget", x.budget(7), 0);
        due("undo", x.undo(), 0);
        due("no budget", x.count(2), 0);
    }

    private static void feeding() {
        says("2: NONE, and none come, if it would have more than 500");
        SharedPurse x = new SharedPurse();
        for (int k = 1; k <= 24; k++) {
            due("feed", x.feed(0x20202020, 0x20202020, 0x20202020, 0x20202020, 0x20202020), 20 * k);
        }
        due("the 500th byte", x.feed(0x20202020, 0x20202020, 0x20202020, 0x20202020, 0x2020203b), 500);
        due("too many", x.feed(0x3b3b3b3b, 0, 0, 0, 0), NONE);
        due("again", x.feed(0x3b3b3b3b, 0, 0, 0, 0), NONE);
        due("none come", x.count(5), 500);
        due("the last of 500 is a ;", x.election(500), -11);
        due("its place", x.fault(), 499);
        due("the tape is empty then", x.count(5), 0);
        due("and takes more", x.feed(0, 0, 0, 0, 0), 20);
        says("2: of each number the highest first");
        SharedPurse y = new SharedPurse();
        // "proj" "ect " "a 12" "34;b" "udge", "t 56" "789;" "    " ..
        due("feed", y.feed(0x70726f6a, 0x65637420, 0x61203132, 0x33343b62, 0x75646765), 20);
        due("feed", y.feed(0x74203536, 0x3738393b, 0x20202020, 0x20202020, 0x20202020), 40);
        due("election", y.election(28), 1);
        due("cost", y.project(0, 0), 1234);
        due("budget", y.count(2), 56789);
        due("the sign too", y.feed(0xff202020, 0, 0, 0, 0), 20);
        due("a byte 255", y.election(20), -11);
        due("at the first", y.fault(), 0);
        due("below", y.feed(0x20202020, 0x2020207f, 0x80000000, -1, LOW), 20);
        due("a byte 127", y.election(8), -11);
        due("the eighth", y.fault(), 7);
    }

    private static void electionLengths() {
        says("3: IllegalArgumentException: the tape has not so many, n below 0 (nothing changes)");
        SharedPurse x = new SharedPurse();
        due("0 of no tape", x.election(0), 0);
        illegal("1 of no tape", () -> x.election(1));
        illegal("-1", () -> x.election(-1));
        illegal("the least", () -> x.election(LOW));
        illegal("the greatest", () -> x.election(HIGH));
        feed(x, "project a 1;");
        illegal("21 of 20", () -> x.election(21));
        illegal("-1 of 20", () -> x.election(-1));
        due("the tape stays", x.count(5), 20);
        due("all 20", x.election(20), 1);
        for (int k = 0; k < 25; k++) {
            x.feed(0x20202020, 0x20202020, 0x20202020, 0x20202020, 0x20202020);
        }
        illegal("501 of 500", () -> x.election(501));
        due("500 of 500", x.election(500), 0);
        illegal("empty now", () -> x.election(1));
        int[] refused = {21, 500, 501, -1, LOW, HIGH};
        for (int n : refused) {
            changesNothing("election(" + n + ")", CallEdgesTest::busy, y -> y.election(n));
        }
    }

    private static void electionChanges() {
        says("3: The tape's first n bytes (it is empty then, whatever comes of it)");
        SharedPurse x = of(PARK);
        feed(x, "project c 1;project d 1;project e 1;");
        due("some of it", x.election(12), 1);
        due("empty", x.count(5), 0);
        feed(x, "project c 1;project d 1;project e 1;");
        due("a fault", x.election(11), -11);
        due("empty", x.count(5), 0);
        feed(x, "project c 1;");
        due("none of it", x.election(0), 0);
        due("empty", x.count(5), 0);
        due("an election without all", x.count(0), 0);
        says("3: are an ELECTION (no ACTS are kept then)");
        SharedPurse y = of(PARK);
        y.budget(1);
        y.cost(0, 1);
        due("all anew", read(y, "project c 3;"), 1);
        due("no acts", y.count(4), 0);
        due("none can be undone", y.undo(), NONE);
        due("no voters", y.count(1), 0);
        due("no budget", y.count(2), 0);
        due("outcome anew", y.outcome(4, 0), 0);
        usedLikeNew();
        says("3: -10 less the FAULT (nothing else changes)");
        String[] wrong = {"?", "budget 100000;", "votes 1 a 1;", "votes 9;votes 9;votes 7;", "law 1;law 1;"};
        for (int k = 0; k < wrong.length; k++) {
            SharedPurse z = of(PARK + "law score*3;");
            z.budget(60);
            String told = lookAtTold(z) + lookAtRules(z);
            due(wrong[k], read(z, wrong[k]), -11 - k);
            yes("as it was", told.equals(lookAtTold(z) + lookAtRules(z)));
            due("acts too", z.undo(), 0);
            due("as ahead of it", z.count(2), 30);
        }
        SharedPurse w = of("project a 1;votes 1 a 1;law 5;");
        due("half a text", read(w, "project q 9;votes 9 q 9;budget 9;law 9"), -11);
        due("none of it counts", w.count(2) + w.count(1) + w.vote(0, 0, true) + w.project(0, 3), 7);
    }

    private static void usedLikeNew() {
        says("3: The tape's first n bytes are an ELECTION, whatever was ahead of it");
        String[] texts = {"", PARK, "budget 9;votes 3;", "project a 1;project b 2;budget 2;",
            "project a 3;project b 1;project c 2;budget 5;votes 1 a9b2;votes 2 c1;votes 2 a3c3;law score*2;",
            "project a 2;project b 2;project c 2;budget 3;votes 3 c1;votes 1 b1;"};
        for (String first : texts) {
            for (String second : texts) {
                alike(second + " behind " + first, x -> {
                    read(x, first);
                    askMuch(x);
                    read(x, second);
                }, x -> read(x, second));
            }
        }
        says("30: The ELECTION is as it was kept, whatever was ahead of it");
        for (String second : texts) {
            alike("an image of " + second, x -> {
                read(x, second);
                x.image();
                read(x, texts[4]);
                askMuch(x);
                x.back();
            }, x -> {
                read(x, second);
                x.image();
            });
        }
        says("An ACT, whatever was asked ahead of it");
        Deed[] acts = {x -> x.budget(3), x -> x.cost(2, 1), x -> x.score(4, 1, 9), x -> x.go(true, 2),
            x -> x.go(false, 0)};
        for (int k = 0; k < acts.length; k++) {
            Deed act = acts[k];
            alike("act " + k, x -> {
                read(x, texts[4]);
                askMuch(x);
                act.on(x);
            }, x -> {
                read(x, texts[4]);
                act.on(x);
            });
            alike("act " + k + " undone", x -> {
                read(x, texts[4]);
                act.on(x);
                askMuch(x);
                x.undo();
            }, x -> read(x, texts[4]));
        }
    }

    private static void faultPlaces() {
        says("4: The place of the latest election()'s FAULT (that was no IllegalArgumentException); NONE: it had none");
        SharedPurse x = new SharedPurse();
        due("there was none", x.fault(), NONE);
        illegal("election", () -> x.election(1));
        due("there still was none", x.fault(), NONE);
        read(x, "  ;");
        due("2", x.fault(), 2);
        illegal("election", () -> x.election(1));
        due("that doesn't count", x.fault(), 2);
        x.budget(1);
        x.undo();
        x.image();
        x.back();
        feed(x, "law 1;");
        due("nor do others", x.fault(), 2);
        due("a good one", x.election(6), 0);
        due("none", x.fault(), NONE);
        read(x, "?");
        due("the least", x.fault(), 0);
        due("the empty one", x.election(0), 0);
        due("none", x.fault(), NONE);
        read(x, "law" + " ".repeat(497));
        due("the greatest", x.fault(), 500);
        read(x, "law");
        due("the latest", x.fault(), 3);
    }

    private static void counts() {
        says("5: NoSuchElementException: another what");
        SharedPurse x = of(PARK);
        int[] no = {-1, 7, 8, LOW, HIGH};
        for (int what : no) {
            noneSuch("count", () -> x.count(what));
        }
        due("projects", x.count(0), 2);
        due("voters", x.count(1), 3);
        due("budget", x.count(2), 30);
        due("costs", x.count(3), 30);
        due("acts", x.count(4), 0);
        due("tape", x.count(5), 0);
        due("law", x.count(6), 0);
        due("a law of 0", of("law 0;").count(6), 1);
        SharedPurse y = of(projects(12, 9999) + all24(""));
        due("all costs", y.count(3), 119988);
    }

    private static void projectFacts() {
        says("6: NoSuchElementException: no such PROJECT, another what");
        SharedPurse x = of("project abcdef 9999;project z 1;votes 1 z 1;");
        int[] no = {-1, 2, 3, 12, LOW, HIGH};
        for (int p : no) {
            noneSuch("project", () -> x.project(p, 0));
        }
        int[] noWhat = {-1, 9, 10, LOW, HIGH};
        for (int what : noWhat) {
            noneSuch("what", () -> x.project(0, what));
        }
        says("6: 3 to 8 letters of its NAME (1 to 26; 0 behind it)");
        for (int i = 0; i < 6; i++) {
            due("six letters", x.project(0, 3 + i), 1 + i);
            due("one letter", x.project(1, 3 + i), i == 0 ? 26 : 0);
        }
        SharedPurse y = of("project abcdef 1;");
        read(y, "project z 1;");
        due("nothing of another text", y.project(0, 4), 0);
    }

    private static void votes() {
        says("7: NoSuchElementException: no such VOTER, PROJECT");
        SharedPurse x = of(PARK);
        int[] noVoter = {-1, 3, 4, 24, LOW, HIGH};
        int[] noProject = {-1, 2, 3, 12, LOW, HIGH};
        for (int k = 0; k < noVoter.length; k++) {
            int v = noVoter[k];
            int p = noProject[k];
            noneSuch("voter", () -> x.vote(v, 0, false));
            noneSuch("voter", () -> x.vote(v, 0, true));
            noneSuch("project", () -> x.vote(0, p, false));
            noneSuch("project", () -> x.vote(0, p, true));
            noneSuch("both", () -> x.vote(v, p, true));
        }
        due("the last", x.vote(2, 1, false), 0);
    }

    private static void outcomes() {
        says("8: NoSuchElementException: no such RULE, another what");
        SharedPurse x = of(PARK);
        for (int rule : NO_RULE) {
            noneSuch("rule", () -> x.outcome(rule, 0));
        }
        int[] noWhat = {-1, 7, 8, LOW, HIGH};
        for (int what : noWhat) {
            noneSuch("what", () -> x.outcome(0, what));
            noneSuch("what", () -> x.outcome(8, what));
        }
        due("the last rule", x.outcome(8, 6), 0);
        says("8: 4 that to the VOTER to whom it is least (0 without), 5 how many VOTERS have none above 0");
        SharedPurse y = of("project a 1;budget 1;votes 1 a 5;votes 1 a 9;votes 1 a 2;law score;");
        due("the last is the worst", y.outcome(4, 4), 2);
        due("none has none", y.outcome(4, 5), 0);
        y.score(1, 0, 0);
        due("one has", y.outcome(4, 5), 1);
        due("the worst", y.outcome(4, 4), 0);
        y.budget(0);
        due("all have", y.outcome(4, 5), 3);
        due("to the only one", of("project a 1;budget 1;votes 1 a 5;law score;").outcome(4, 4), 5);
        due("the first is the worst", of("project a 1;budget 1;votes 1 a 2;votes 1 a 5;law score;").outcome(4, 4), 2);
        says("8: 6 raised how often (RULES 2, 3; 0 of others)");
        for (int rule = 0; rule <= 8; rule++) {
            due("raised", x.outcome(rule, 6), rule == 2 || rule == 3 ? 4 : 0);
        }
    }

    private static void chosenOnes() {
        says("9: NoSuchElementException: no such RULE; there is none such");
        SharedPurse x = of(PARK);
        for (int rule : NO_RULE) {
            noneSuch("rule", () -> x.chosen(rule, 0));
        }
        int[] no = {-1, 1, 2, LOW, HIGH};
        for (int k : no) {
            noneSuch("of one", () -> x.chosen(0, k));
        }
        due("the one", x.chosen(0, 0), 0);
        for (int rule = 0; rule <= 8; rule++) {
            int r = rule;
            int many = x.outcome(rule, 1);
            fine("the last", () -> x.chosen(r, many - 1));
            noneSuch("behind the last", () -> x.chosen(r, many));
        }
        says("9: by RULES 6, 7 by numbers; FILLED ones behind");
        SharedPurse y = of("project a 1;project b 3;project c 1;budget 6;votes 1 c 9;votes 2 b 1;law score;");
        due("c is shared", y.chosen(1, 0), 2);
        due("b is shared", y.chosen(1, 1), 1);
        due("a is filled", y.chosen(1, 2), 0);
        due("by numbers", y.chosen(6, 0), 1);
        due("by numbers", y.chosen(6, 1), 2);
        due("by numbers", y.chosen(7, 0), 1);
        due("by numbers", y.chosen(7, 1), 2);
    }

    private static void servedPaidLeft() {
        SharedPurse x = of(PARK);
        int[] noVoter = {-1, 3, 24, LOW, HIGH};
        says("10: NoSuchElementException: no such RULE, VOTER");
        for (int rule : NO_RULE) {
            noneSuch("rule", () -> x.served(rule, 0));
        }
        for (int v : noVoter) {
            noneSuch("voter", () -> x.served(0, v));
            noneSuch("voter", () -> x.served(8, v));
        }
        due("the last", x.served(8, 2), 1);
        says("11: by a RULE 0 to 3. NoSuchElementException: no such RULE, VOTER, PROJECT");
        for (int rule : NO_PAYING_RULE) {
            noneSuch("rule", () -> x.paid(rule, 0, 0));
            noneSuch("rule", () -> x.paid(rule, 0, NONE));
            noneSuch("rule", () -> x.left(rule, 0));
            noneSuch("rule", () -> x.left(rule, NONE));
        }
        for (int v : noVoter) {
            noneSuch("voter", () -> x.paid(0, v, 0));
            noneSuch("voter, of all", () -> x.paid(0, v, NONE));
        }
        int[] noProject = {-2, 2, 12, LOW, HIGH};
        for (int p : noProject) {
            noneSuch("project", () -> x.paid(3, 0, p));
        }
        due("the last rule", x.paid(3, 2, 0), 3332);
        due("project NONE: for all", x.paid(3, 0, NONE), 13334);
        says("12: LEFT to a VOTER (voter NONE: to all)");
        int[] noOne = {-2, 3, 24, LOW, HIGH};
        for (int v : noOne) {
            noneSuch("voter", () -> x.left(3, v));
        }
        due("the last", x.left(0, 2), 6668);
        due("to all", x.left(0, NONE), 20000);
    }

    private static void stepsAndPrices() {
        says("13: NoSuchElementException: there is none such, another what");
        SharedPurse x = of(PARK);
        int[] no = {-1, 1, 2, LOW, HIGH};
        for (int k : no) {
            noneSuch("of one", () -> x.step(k, 0));
        }
        int[] noWhat = {-1, 3, 4, LOW, HIGH};
        for (int what : noWhat) {
            noneSuch("what", () -> x.step(0, what));
        }
        due("the last what", x.step(0, 2), 0);
        says("13: EQUAL SHARES (RULE 0)");
        due("by rule 2 there were two", x.outcome(2, 1), 2);
        noneSuch("by rule 0 there is one", () -> x.step(1, 0));
        due("its price", x.step(0, 0), 3334);
        says("14: NoSuchElementException: no such PROJECT, k (more than are chosen)");
        int[] noProject = {-1, 2, 12, LOW, HIGH};
        for (int p : noProject) {
            noneSuch("project", () -> x.price(p, 0));
        }
        int[] noK = {-1, 2, 3, LOW, HIGH};
        for (int k : noK) {
            noneSuch("k", () -> x.price(0, k));
            noneSuch("k", () -> x.price(1, k));
        }
        due("as at first (k 0)", x.price(0, 0), 3334);
        due("behind the first", x.price(0, 1), NONE);
        due("none", x.price(1, 1), NONE);
        due("with nothing chosen", of("project a 5;budget 4;votes 1 a 1;").price(0, 0), NONE);
        noneSuch("with nothing chosen", () -> of("project a 5;budget 4;votes 1 a 1;").price(0, 1));
    }

    private static void groupCalls() {
        says("15: NoSuchElementException: no such GROUP, another what");
        SharedPurse x = of(PARK);
        int[] noGroup = {0, 4, 5, -1, LOW, HIGH, LOW | 1};
        for (int set : noGroup) {
            noneSuch("group", () -> x.group(set, 0));
            noneSuch("isServed", () -> x.isServed(set, 0, false) ? 1 : 0);
            noneSuch("isServed", () -> x.isServed(set, 0, true) ? 1 : 0);
        }
        int[] noWhat = {-1, 4, 5, LOW, HIGH};
        for (int what : noWhat) {
            noneSuch("what", () -> x.group(1, what));
        }
        due("the last group", x.group(3, 0), 3);
        says("16: NoSuchElementException: no such GROUP, RULE");
        for (int rule : NO_RULE) {
            noneSuch("rule", () -> x.isServed(1, rule, false) ? 1 : 0);
            noneSuch("rule", () -> x.isServed(1, rule, true) ? 1 : 0);
        }
        yes("the last", x.isServed(3, 8, true));
        says("17: NoSuchElementException: no such RULE (of what 0 too), another what");
        for (int rule : NO_RULE) {
            for (int what = 0; what <= 4; what++) {
                int w = what;
                noneSuch("rule, what " + w, () -> x.groups(rule, w));
            }
        }
        int[] noFact = {-1, 5, 6, LOW, HIGH};
        for (int what : noFact) {
            noneSuch("what", () -> x.groups(0, what));
        }
        due("the last what", x.groups(8, 4), NONE);
    }

    private static void whatWouldBe() {
        SharedPurse x = of(PARK);
        int[] noVoter = {-1, 3, 24, LOW, HIGH};
        says("18: NoSuchElementException: no such RULE, VOTER");
        for (int rule : NO_RULE) {
            noneSuch("rule", () -> x.away(rule, 0));
            noneSuch("rule", () -> x.ride(rule, 0, 0));
            noneSuch("rule", () -> x.voting(rule, 0, 0, 0));
            noneSuch("rule", () -> x.with(rule, 0));
        }
        for (int v : noVoter) {
            noneSuch("voter", () -> x.away(0, v));
            noneSuch("voter", () -> x.ride(0, v, 0));
            noneSuch("voter", () -> x.voting(0, v, 0, 0));
        }
        due("the last voter", x.away(0, 2), 3);
        says("19: no such BUDGET");
        int[] noBudget = {-1, 100000, 100001, LOW, HIGH};
        for (int b : noBudget) {
            illegal("budget", () -> x.with(0, b));
            illegal("budget", () -> x.with(8, b));
        }
        due("the least", x.with(0, 0), 0);
        due("the greatest", x.with(0, 99999), 3);
        says("20: no such SCORE");
        int[] noProject = {-1, 2, 12, LOW, HIGH};
        for (int p : noProject) {
            noneSuch("project", () -> x.voting(0, 0, p, 0));
        }
        int[] noScore = {-1, 10, 11, LOW, HIGH};
        for (int s : noScore) {
            illegal("score", () -> x.voting(0, 0, 0, s));
        }
        due("the least", x.voting(0, 2, 1, 0), 1);
        due("the greatest", x.voting(0, 2, 1, 9), 3);
        says("21: another what");
        int[] noWhat = {-1, 2, 3, LOW, HIGH};
        for (int what : noWhat) {
            noneSuch("what", () -> x.ride(0, 0, what));
        }
        due("none", x.ride(0, 2, 0), 0);
        due("none", x.ride(0, 2, 1), NONE);
    }

    private static void pushesAndDiscounts() {
        says("22, 23: NoSuchElementException: no such RULE, PROJECT");
        SharedPurse x = of(PARK);
        for (int rule : NO_RULE) {
            noneSuch("push", () -> x.push(rule, 0));
            noneSuch("discount", () -> x.discount(rule, 0));
        }
        int[] noProject = {-1, 2, 12, LOW, HIGH};
        for (int p : noProject) {
            noneSuch("push", () -> x.push(0, p));
            noneSuch("discount", () -> x.discount(8, p));
        }
        due("the last", x.push(8, 1), 0);
        due("the last", x.discount(8, 1), 0);
    }

    private static void changedValues() {
        SharedPurse x = of(PARK);
        says("24: the BUDGET becomes v: what it was. IllegalArgumentException: v");
        int[] noBudget = {-1, 100000, LOW, HIGH};
        for (int b : noBudget) {
            illegal("budget", () -> x.budget(b));
        }
        due("the greatest", x.budget(99999), 30);
        due("the least", x.budget(0), 99999);
        due("again", x.budget(1), 0);
        says("25: a COST becomes v: what it was");
        int[] noCost = {0, -1, 10000, LOW, HIGH};
        for (int c : noCost) {
            illegal("cost", () -> x.cost(1, c));
        }
        int[] noProject = {-1, 2, 12, LOW, HIGH};
        for (int p : noProject) {
            noneSuch("project", () -> x.cost(p, 1));
            noneSuch("project", () -> x.score(0, p, 1));
        }
        due("the greatest", x.cost(1, 9999), 20);
        due("the least", x.cost(1, 1), 9999);
        due("it is", x.project(1, 0), 1);
        says("26: a SCORE becomes v: what it was");
        int[] noScore = {-1, 10, LOW, HIGH};
        for (int s : noScore) {
            illegal("score", () -> x.score(2, 1, s));
        }
        int[] noVoter = {-1, 3, 24, LOW, HIGH};
        for (int v : noVoter) {
            noneSuch("voter", () -> x.score(v, 0, 1));
        }
        due("the greatest", x.score(2, 1, 9), 0);
        due("the least", x.score(2, 1, 0), 9);
        due("it is", x.vote(2, 1, false), 0);
        due("seven acts", x.count(4), 7);
    }

    private static void whichComesFirst() {
        says("NoSuchElementException: no such RULE. IllegalArgumentException (behind that)");
        SharedPurse x = of(PARK);
        int[] noBudget = {-1, 100000, LOW, HIGH};
        for (int b : noBudget) {
            noneSuch("with: the rule first", () -> x.with(9, b));
            noneSuch("with: the rule first", () -> x.with(-1, b));
        }
        int[] noScore = {-1, 10, LOW, HIGH};
        for (int s : noScore) {
            noneSuch("voting: the rule first", () -> x.voting(9, 0, 0, s));
            noneSuch("voting: the voter first", () -> x.voting(0, 3, 0, s));
            noneSuch("voting: the project first", () -> x.voting(0, 0, 2, s));
            noneSuch("score: the voter first", () -> x.score(3, 0, s));
            noneSuch("score: the project first", () -> x.score(0, 2, s));
        }
        int[] noCost = {0, 10000, LOW, HIGH};
        for (int c : noCost) {
            noneSuch("cost: the project first", () -> x.cost(2, c));
            noneSuch("cost: the project first", () -> x.cost(-1, c));
        }
    }

    private static void goingOnes() {
        says("27: a PROJECT (voter false), a VOTER (true) goes: how many are left");
        SharedPurse x = of("project a 1;project bc 2;project d 3;budget 3;votes 1 a1bc2d3;votes 2 d4;law score;");
        int[] no = {-1, 3, 12, 24, LOW, HIGH};
        for (int i : no) {
            noneSuch("voter", () -> x.go(true, i));
            noneSuch("project", () -> x.go(false, i));
        }
        due("the last project", x.go(false, 2), 2);
        noneSuch("not again", () -> x.go(false, 2));
        due("the first", x.go(false, 0), 1);
        due("bc has number 0 now", x.project(0, 4), 3);
        due("its cost", x.project(0, 0), 2);
        due("its score", x.vote(0, 0, false), 2);
        due("the only one", x.go(false, 0), 0);
        noneSuch("none is left", () -> x.go(false, 0));
        due("the last voter", x.go(true, 2), 2);
        due("the first", x.go(true, 0), 1);
        due("the only one", x.go(true, 0), 0);
        noneSuch("none is left", () -> x.go(true, 0));
        due("acts", x.count(4), 6);
        says("27: what has gone is neither chosen nor wanted");
        SharedPurse z = of("project a 1;project b 1;budget 2;votes 2 a1b1;");
        for (int rule = 0; rule <= 8; rule++) {
            due("both", z.outcome(rule, 0), 3);
        }
        z.go(false, 1);
        for (int rule = 0; rule <= 8; rule++) {
            due("a alone, rule " + rule, z.outcome(rule, 0), 1);
            due("were there more", z.with(rule, 99999), 1);
            due("groups", z.groups(rule, 0), 1);
        }
        SharedPurse w = of("project a 1;project b 1;budget 1;votes 1 a1;votes 2 b1;");
        w.go(false, 1);
        for (int rule = 1; rule <= 8; rule++) {
            due("b, wanted more, is gone, rule " + rule, w.outcome(rule, 0), 1);
        }
        z.go(true, 1);
        due("liked by the one that is left", z.project(0, 1), 1);
        due("members", z.group(1, 0), 1);
        due("left to all", z.left(0, NONE), 1000);
        says("27: those behind have numbers less by 1");
        SharedPurse y = of(projects(12, 7) + "votes 1 a1;votes 1 b2;votes 9;votes 9;votes 3;votes 1 l9k8;");
        due("one of twelve", y.go(false, 1), 11);
        due("l", y.project(10, 3), 12);
        due("its score", y.vote(23, 10, false), 9);
        due("one of 24", y.go(true, 0), 23);
        due("its score", y.vote(22, 10, false), 9);
        due("k's", y.vote(22, 9, false), 8);
        noneSuch("a 24th", () -> y.vote(23, 0, false));
        noneSuch("a 12th", () -> y.project(11, 0));
    }

    private static void undoing() {
        says("28: how many still can be; NONE: none can");
        SharedPurse x = of(PARK);
        due("none", x.undo(), NONE);
        due("still none", x.undo(), NONE);
        x.budget(1);
        due("0 still", x.undo(), 0);
        due("none", x.undo(), NONE);
        due("as it was", x.count(2), 30);
        says("the latest 20 can be UNDONE one by one, the latest first");
        for (int k = 1; k <= 20; k++) {
            x.budget(100 + k);
            due("acts", x.count(4), k);
        }
        for (int k = 19; k >= 0; k--) {
            due("undo", x.undo(), k);
            due("budget", x.count(2), k == 0 ? 30 : 100 + k);
        }
        due("all of 20", x.undo(), NONE);
        for (int k = 1; k <= 21; k++) {
            x.budget(100 + k);
        }
        due("20 of 21", x.count(4), 20);
        for (int k = 19; k >= 0; k--) {
            due("undo", x.undo(), k);
        }
        due("not the first of 21", x.count(2), 101);
        due("none", x.undo(), NONE);
        due("nothing changes", x.count(2), 101);
        says("also where nothing changes");
        SharedPurse y = of(PARK);
        due("budget", y.budget(30), 30);
        due("cost", y.cost(0, 10), 10);
        due("score", y.score(2, 1, 0), 0);
        due("acts", y.count(4), 3);
        due("undo", y.undo(), 2);
        says("a refused call is no ACT");
        illegal("budget", () -> y.budget(-1));
        illegal("cost", () -> y.cost(0, 0));
        illegal("score", () -> y.score(0, 0, 10));
        noneSuch("go", () -> y.go(true, 3));
        due("acts", y.count(4), 2);
    }

    private static void undoingAllKinds() {
        says("BUDGET, a COST, a SCORE becomes another one, a PROJECT, a VOTER goes .. UNDONE");
        SharedPurse x = of("project a 1;project bc 2;budget 3;votes 1 a1bc2;votes 2 bc4;law score*voters;");
        String[] was = new String[6];
        for (int k = 0; k < 5; k++) {
            was[k] = lookAtTold(x);
            switch (k) {
                case 0: x.budget(9); break;
                case 1: x.cost(1, 9); break;
                case 2: x.score(2, 0, 9); break;
                case 3: x.go(false, 0); break;
                default: x.go(true, 0); break;
            }
        }
        for (int k = 4; k >= 0; k--) {
            due("undo", x.undo(), k);
            yes("as it was ahead of act " + k, was[k].equals(lookAtTold(x)));
        }
        SharedPurse y = of("project a 1;budget 1;votes 1 a 1;");
        y.go(false, 0);
        y.go(true, 0);
        due("nothing", y.outcome(0, 0), 0);
        y.undo();
        y.undo();
        due("all again", y.outcome(0, 0), 1);
        due("its name", y.project(0, 3), 1);
    }

    private static void ringOfActs() {
        says("the latest 20 can be UNDONE, also behind many");
        SharedPurse x = new SharedPurse();
        for (int k = 1; k <= 57; k++) {
            x.budget(k);
        }
        for (int k = 0; k < 13; k++) {
            due("undo", x.undo(), 19 - k);
        }
        due("44", x.count(2), 44);
        for (int k = 1; k <= 9; k++) {
            x.budget(1000 + k);
        }
        due("acts", x.count(4), 16);
        for (int k = 0; k < 16; k++) {
            due("undo", x.undo(), 15 - k);
        }
        due("37", x.count(2), 37);
        due("none", x.undo(), NONE);
    }

    private static void images() {
        says("30: false: nothing was kept");
        SharedPurse x = of(PARK);
        x.budget(5);
        no("back", x.back());
        due("nothing changes", x.count(2), 5);
        due("nor acts", x.count(4), 1);
        says("29: The ELECTION (with its LAW) is kept (instead of what was; ACTS aren't)");
        x.image();
        due("acts stay", x.count(4), 1);
        due("and can be undone", x.undo(), 0);
        due("30", x.count(2), 30);
        yes("back", x.back());
        due("5", x.count(2), 5);
        due("no acts", x.undo(), NONE);
        read(x, "law score;project z 2;votes 1 z 7;");
        yes("back", x.back());
        due("no law", x.count(6), 0);
        due("its projects", x.count(0), 2);
        read(x, "law score;project z 2;votes 1 z 7;");
        x.image();
        read(x, PARK);
        due("1", x.vote(0, 0, true), 1);
        yes("instead of what was", x.back());
        due("with its law", x.vote(0, 0, true), 7);
        says("30: The ELECTION is as it was kept (no ACTS are kept then)");
        x.score(0, 0, 3);
        x.go(false, 0);
        due("acts", x.count(4), 2);
        yes("back again", x.back());
        due("acts", x.count(4), 0);
        due("none", x.undo(), NONE);
        due("as it was kept", x.vote(0, 0, false), 7);
        says("29: of an ELECTION without all");
        SharedPurse y = new SharedPurse();
        y.image();
        read(y, PARK);
        yes("back", y.back());
        for (int what = 0; what <= 6; what++) {
            due("nothing", y.count(what), 0);
        }
        says("29, 30: the ELECTION, not the tape, not the place of a fault");
        feed(y, "budget 9;");
        y.image();
        yes("back", y.back());
        due("the tape stays", y.count(5), 20);
        due("its text too", y.election(9), 0);
        due("9", y.count(2), 9);
        read(y, " ?");
        yes("back", y.back());
        due("the place stays", y.fault(), 1);
    }

    private static void refusedCallsChangeNothing() {
        says("a refused call changes nothing");
        Asked[] refused = {
            x -> x.count(7), x -> x.project(2, 0), x -> x.project(0, 9), x -> x.vote(2, 0, true),
            x -> x.vote(0, 2, true), x -> x.outcome(9, 0), x -> x.outcome(0, 7), x -> x.chosen(9, 0),
            x -> x.chosen(0, 2), x -> x.served(9, 0), x -> x.served(0, 2), x -> x.paid(4, 0, 0),
            x -> x.paid(0, 2, 0), x -> x.paid(0, 0, 2), x -> x.left(4, 0), x -> x.left(0, 2), x -> x.step(2, 0),
            x -> x.step(0, 3), x -> x.price(2, 0), x -> x.price(0, 3), x -> x.group(0, 0), x -> x.group(4, 0),
            x -> x.group(1, 4), x -> x.isServed(0, 0, true) ? 1 : 0, x -> x.isServed(1, 9, true) ? 1 : 0,
            x -> x.groups(9, 0), x -> x.groups(0, 5), x -> x.away(9, 0), x -> x.away(0, 2), x -> x.with(9, 0),
            x -> x.with(0, -1), x -> x.with(0, 100000), x -> x.voting(9, 0, 0, 0), x -> x.voting(0, 2, 0, 0),
            x -> x.voting(0, 0, 2, 0), x -> x.voting(0, 0, 0, 10), x -> x.ride(9, 0, 0), x -> x.ride(0, 2, 0),
            x -> x.ride(0, 0, 2), x -> x.push(9, 0), x -> x.push(0, 2), x -> x.discount(9, 0),
            x -> x.discount(0, 2), x -> x.budget(-1), x -> x.budget(100000), x -> x.cost(2, 1), x -> x.cost(0, 0),
            x -> x.cost(0, 10000), x -> x.score(2, 0, 1), x -> x.score(0, 2, 1), x -> x.score(0, 0, 10),
            x -> x.score(0, 0, -1), x -> x.go(true, 2), x -> x.go(false, 2), x -> x.election(-1), x -> x.election(21)};
        for (int k = 0; k < refused.length; k++) {
            SharedPurse x = new SharedPurse();
            busy(x);
            Asked call = refused[k];
            no("refused call " + k + " throws", thrown(() -> call.on(x)).equals("nothing"));
            changesNothing("refused call " + k, CallEdgesTest::busy, call);
        }
        says("2: NONE, and none come");
        changesNothing("feed of a full tape", CallEdgesTest::fullTape, x -> x.feed(1, 2, 3, 4, 5));
        says("28: NONE: none can");
        changesNothing("undo without acts", x -> read(x, PARK), SharedPurse::undo);
        says("30: false: nothing was kept");
        changesNothing("back without an image", x -> {
            read(x, PARK);
            x.budget(3);
            feed(x, "law 1;");
        }, x -> x.back() ? 1 : 0);
    }

    private static void fullQuestions() {
        says("the last PROJECT of 12, the last VOTER of 24");
        for (int rule = 0; rule <= 8; rule++) {
            SharedPurse x = of(FULL);
            due("ten, rule " + rule, x.outcome(rule, 0), 1023);
            due("served", x.served(rule, 23), 10);
            yes("the last", x.isServed(2048, rule, false));
            no("10 are less than 11", x.isServed(2047, rule, false));
            yes("11 with one", x.isServed(4094, rule, true));
            no("not 12", x.isServed(4095, rule, true));
            due("away", x.away(rule, 23), 1023);
            due("away", x.away(rule, 0), 1023);
            due("voting", x.voting(rule, 23, 11, 0), 1023);
            due("ride", x.ride(rule, 23, 0), 0);
            due("by none", x.ride(rule, 23, 1), NONE);
            due("all want it already", x.push(rule, 11), NONE);
            due("for 8999 it is the cheapest", x.discount(rule, 11), 1);
        }
        SharedPurse y = of(FULL);
        due("score", y.vote(23, 11, false), 1);
        due("worth", y.vote(23, 11, true), 1);
        due("not paid for", y.paid(0, 23, 11), 0);
        due("paid for", y.paid(0, 23, 9), 416625);
        due("price at first", y.price(11, 0), 416625);
        due("price behind nine", y.price(11, 9), 416625);
        due("price behind ten", y.price(11, 10), NONE);
        due("members", y.group(2048, 0), 0xffffff);
        due("no letter", y.project(11, 8), 0);
        due("all 24 aren't enough", of(projects(11) + "project l 25;budget 24;" + all24("")).push(0, 11), NONE);
        due("all 24 are", of(projects(11) + "project l 24;budget 24;" + all24("")).push(0, 11), 24);
    }

    private static void fullActs() {
        says("ACTS with 12 PROJECTS, 24 VOTERS");
        SharedPurse x = of(FULL);
        due("cost", x.cost(11, 1), 9999);
        due("it is the cheapest", x.chosen(0, 0), 11);
        due("score", x.score(23, 11, 9), 1);
        due("score", x.vote(23, 11, false), 9);
        due("the first voter", x.go(true, 0), 23);
        due("the last has number 22", x.vote(22, 11, false), 9);
        due("another row", x.vote(22, 10, false), 1);
        due("the last voter", x.go(true, 22), 22);
        due("the first project", x.go(false, 0), 11);
        due("l has number 10", x.project(10, 3), 12);
        due("its cost", x.project(10, 0), 1);
        due("the last project", x.go(false, 10), 10);
        due("k is the last", x.project(9, 3), 11);
        for (int k = 5; k >= 0; k--) {
            due("undo", x.undo(), k);
        }
        due("12", x.count(0), 12);
        due("24", x.count(1), 24);
        due("9999", x.project(11, 0), 9999);
        due("1", x.vote(23, 11, false), 1);
        due("ten", x.outcome(0, 0), 1023);
        x.image();
        read(x, PARK);
        yes("back", x.back());
        due("the last letter", x.project(11, 3), 12);
        due("the last score", x.vote(23, 11, false), 1);
        due("all costs", x.count(3), 119988);
    }

    private static void fullTape(SharedPurse x) {
        read(x, PARK);
        feed(x, "budget 44;" + " ".repeat(489) + ";");
    }

    private static void questionsChangeNothing() {
        says("a question changes nothing");
        Asked[] questions = {
            SharedPurse::fault, x -> x.count(3), x -> x.project(1, 2), x -> x.vote(1, 1, true), x -> x.outcome(2, 0),
            x -> x.chosen(1, 1), x -> x.served(7, 1), x -> x.paid(3, 1, NONE), x -> x.left(2, NONE),
            x -> x.step(0, 0), x -> x.price(1, 1), x -> x.group(3, 3), x -> x.isServed(3, 6, true) ? 1 : 0,
            x -> x.groups(5, 2)};
        for (int k = 0; k < questions.length; k++) {
            changesNothing("question " + k, CallEdgesTest::busy, questions[k]);
        }
        for (int rule = 0; rule <= 8; rule++) {
            int r = rule;
            changesNothing("away, rule " + r, CallEdgesTest::busy, x -> x.away(r, 0));
            changesNothing("with, rule " + r, CallEdgesTest::busy, x -> x.with(r, 99));
            changesNothing("voting, rule " + r, CallEdgesTest::busy, x -> x.voting(r, 1, 1, 9));
            changesNothing("ride, rule " + r, CallEdgesTest::busy, x -> x.ride(r, 0, 0));
            changesNothing("push, rule " + r, CallEdgesTest::busy, x -> x.push(r, 1));
            changesNothing("discount, rule " + r, CallEdgesTest::busy, x -> x.discount(r, 1));
        }
    }
}
