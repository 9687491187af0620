/** The document's sentences on rules, groups and what would be that name a boundary, one by one; reckoned by hand. */
public final class RuleEdgesTest extends Checks {
    public static void main(String[] args) {
        purses();
        prices();
        ties();
        paying();
        steps();
        noBudget();
        noVoters();
        noProjects();
        fullRules();
        greedy();
        filled();
        raised();
        raisedToTheEnd();
        most();
        worstFirst();
        time();
        paidAndLeft();
        groupsAndMembers();
        dueGroups();
        servedGroups();
        rides();
        pushes();
        discounts();
        whatWouldBe();
        finish("all edges of the rules hold");
    }

    private static void purses() {
        says("each VOTER has a PURSE of the BUDGET by 1000 by the number of VOTERS (cut, in MILLS)");
        due("a third of 1", of("budget 1;votes 3;").left(0, 2), 333);
        due("three of them", of("budget 1;votes 3;").left(0, NONE), 999);
        due("of nothing", of("votes 3;").left(0, 0), 0);
        due("all to one", of("budget 99999;votes 1;").left(0, 0), 99999000);
        due("a seventh", of("budget 99999;votes 7;").left(0, 6), 14285571);
        due("the 24th part", of("budget 99999;" + all24("")).left(0, 23), 4166625);
        due("of 24 cut", of("budget 1;" + all24("")).left(0, 23), 41);
    }

    /** The same budget, the same score: the same is chosen. */
    private static void sameWould(String text) {
        SharedPurse x = of(text);
        for (int rule = 0; rule <= 8; rule++) {
            SharedPurse y = of(text);
            due("with the same budget, rule " + rule + " of " + text, y.with(rule, y.count(2)), x.outcome(rule, 0));
            due("with the same score", y.voting(rule, 0, 0, y.vote(0, 0, false)), x.outcome(rule, 0));
        }
    }

    private static void prices() {
        says("PRICE of a PROJECT: the least r (1 on)");
        due("1 is enough", of("project a 1;budget 1;votes 1 a 1;law 1000;").price(0, 0), 1);
        due("1 is not quite", of("project a 1;budget 1;votes 1 a 1;law 999;").price(0, 0), 2);
        due("far more than enough", of("project a 1;budget 99999;" + all24("a 1") + "law 9999;").price(0, 0), 1);
        due("the greatest", of("project a 9999;budget 9999;votes 1 a 1;").price(0, 0), 9999000);
        due("a third, not cut", of("project a 1;budget 3;votes 3 a 1;").price(0, 0), 334);
        // 9999 times the price is far above what an int holds; the second has to give all
        SharedPurse x = of("project a 9998;budget 9998;votes 1 a 9;votes 1 a 1;law (score-1)*9999+1;");
        due("times 9999", x.price(0, 0), 4999000);
        due("no more than the purse", x.paid(0, 0, 0), 4999000);
        says("all together, are 1000 times the COST or more; none, if there is none such");
        due("just enough", of("project a 2;budget 2;votes 2 a 1;").price(0, 0), 1000);
        due("two mills less", of("project a 2;budget 2;votes 3 a 1;").price(0, 0), NONE);
        due("a mill less", of("project a 1;budget 1;votes 3 a 1;").price(0, 0), NONE);
        due("wanted by nobody", of("project a 1;budget 9;votes 3;").price(0, 0), NONE);
        due("worth nothing", of("project a 1;budget 9;votes 3 a 1;law 0;").price(0, 0), NONE);
        due("nor chosen", of("project a 1;budget 9;votes 3 a 1;law 0;").outcome(0, 0), 0);
        due("without voters", of("project a 1;budget 9;").price(0, 0), NONE);
        due("without money", of("project a 1;votes 1 a 1;").price(0, 0), NONE);
        // a takes 1000 of the first; then 2000 and 2500 and 2500 for b; c could be at first
        SharedPurse w = of("project a 1;project b 7;project c 9;budget 9;votes 1 a9b1c1;votes 2 b1c1;law score;");
        due("a", w.price(0, 0), 112);
        due("b at first", w.price(1, 0), 2334);
        due("b behind a", w.price(1, 1), 2500);
        due("c at first", w.price(2, 0), 3000);
        due("c behind a", w.price(2, 1), NONE);
        due("left to the last", w.left(0, 2), 500);
        says("PRICE of a PROJECT behind the k-th that is chosen; NONE: none, it is chosen by then");
        SharedPurse y = of("project a 1;project b 1;project c 9;budget 5;votes 1 a 9 b 3 c 1;law score;");
        due("a at first", y.price(0, 0), 112);
        due("a behind itself", y.price(0, 1), NONE);
        due("b at first", y.price(1, 0), 334);
        due("b behind a", y.price(1, 1), 334);
        due("b behind itself", y.price(1, 2), NONE);
        due("c never", y.price(2, 0), NONE);
        due("c behind all", y.price(2, 2), NONE);
        noneSuch("behind more than are chosen", () -> y.price(2, 3));
        noneSuch("ahead of the first", () -> y.price(2, -1));
    }

    private static void ties() {
        says("of several that which is LIKED more, of several the least");
        // both at 1000; b is liked by one more, to whom it is worth nothing
        SharedPurse x = of("project a 1;project b 1;budget 3;votes 1 a 2;votes 1 b 2;votes 1 b 1;law score-1;");
        due("liked more", x.chosen(0, 0), 1);
        due("the other", x.chosen(0, 1), 0);
        due("by the same price", x.step(0, 0) - x.step(1, 0), 0);
        SharedPurse y = of("project a 1;project b 1;project c 1;budget 3;votes 1 c 1;votes 1 b 1;votes 1 a 1;");
        due("the least", y.chosen(0, 0), 0);
        due("the next", y.chosen(0, 1), 1);
        due("the last", y.chosen(0, 2), 2);
        // 3000 of four against 3000 of three
        SharedPurse z = of("project a 3;project b 3;budget 90;votes 3 a 1;votes 3 b 1;votes 1 b 1;");
        due("the less price", z.price(1, 0), 750);
        due("is ahead", z.chosen(0, 0), 1);
    }

    private static void paying() {
        says("pays the lesser of PURSE and r times WORTH, but no more than what is still to be paid");
        SharedPurse x = of("project a 1;budget 3;votes 3 a 1;");
        due("the first", x.paid(0, 0, 0), 334);
        due("the last", x.paid(0, 2, 0), 332);
        due("left to the last", x.left(0, 2), 668);
        SharedPurse y = of("project a 1;budget 3;votes 3 a 1;law 500;");
        due("the second", y.paid(0, 1, 0), 500);
        due("nothing is still to be paid", y.paid(0, 2, 0), 0);
        due("all is left", y.left(0, 2), 1000);
        SharedPurse z = of("project a 9999;budget 9999;votes 1 a 1;");
        due("all of it", z.paid(0, 0, 0), 9999000);
        due("nothing left", z.left(0, 0), 0);
        SharedPurse w = of(FULL);
        due("ten times a 24th of 9999", w.paid(0, 23, NONE), 4166250);
        due("375 left", w.left(0, 23), 375);
        due("24 times", w.left(0, NONE), 9000);
    }

    private static void steps() {
        says("0 its PRICE, 1 how many pay (above 0), 2 how many of these have nothing left then");
        SharedPurse x = of("project a 1;project b 1;budget 2;votes 1 a 9 b 1;votes 1 b 1;law score;");
        due("a's price", x.step(0, 0), 112);
        due("one pays", x.step(0, 1), 1);
        due("all it has", x.step(0, 2), 1);
        due("b's price", x.step(1, 0), 1000);
        due("the other pays", x.step(1, 1), 1);
        due("the first had nothing left by then, and doesn't pay", x.step(1, 2), 1);
        noneSuch("a third", () -> x.step(2, 0));
        SharedPurse y = of("project a 2;budget 3;votes 3 a 1;law 1000;");
        due("two pay", y.step(0, 1), 2);
        due("these two", y.step(0, 2), 2);
        // 333 each and 1
        SharedPurse z = of("project a 1;budget 9;votes 5 a 1;law 333;");
        due("1 is above 0", z.step(0, 1), 4);
        due("none has paid all", z.step(0, 2), 0);
        SharedPurse w = of("project a 24;budget 24;" + all24("a 1"));
        due("all 24", w.step(0, 1), 24);
        due("all that they have", w.step(0, 2), 24);
        SharedPurse v = of(FULL);
        due("the tenth", v.step(9, 0), 416625);
        noneSuch("an eleventh", () -> v.step(10, 0));
        noneSuch("of none", () -> of("project a 1;votes 1 a 1;").step(0, 0));
    }

    private static void noBudget() {
        says("a BUDGET (0 to 99999)");
        SharedPurse x = of("project a 1;votes 1 a 1;");
        for (int rule = 0; rule <= 8; rule++) {
            due("rule " + rule + " with 0", x.outcome(rule, 0), 0);
            due("cost", x.outcome(rule, 2), 0);
            due("the voter has none", x.outcome(rule, 5), 1);
            due("raised", x.outcome(rule, 6), 0);
        }
        for (int rule = 0; rule <= 8; rule++) {
            due("rule " + rule + " with 1", x.with(rule, 1), 1);
            due("rule " + rule + " with 99999", x.with(rule, 99999), 1);
        }
    }

    private static void noVoters() {
        says("VOTERS 0 to at most 23: none");
        SharedPurse x = of("project a 1;project b 3;project c 1;budget 3;");
        int[] bits = {0, 5, 0, 5, 5, 5, 0, 0, 0};
        for (int rule = 0; rule <= 8; rule++) {
            due("rule " + rule, x.outcome(rule, 0), bits[rule]);
            due("worth", x.outcome(rule, 3), 0);
            due("to the worst (0 without)", x.outcome(rule, 4), 0);
            due("no voter has none", x.outcome(rule, 5), 0);
            due("raised", x.outcome(rule, 6), rule == 2 || rule == 3 ? 300 : 0);
            due("groups that are due", x.groups(rule, 0), 0);
            due("none not nearly", x.groups(rule, 4), NONE);
            due("push", x.push(rule, 1), NONE);
            int r = rule;
            noneSuch("served", () -> x.served(r, 0));
            noneSuch("away", () -> x.away(r, 0));
            noneSuch("voting", () -> x.voting(r, 0, 0, 1));
            noneSuch("ride", () -> x.ride(r, 0, 0));
        }
        for (int rule = 0; rule <= 3; rule++) {
            int r = rule;
            due("left to all", x.left(rule, NONE), 0);
            noneSuch("left", () -> x.left(r, 0));
            noneSuch("paid", () -> x.paid(r, 0, NONE));
        }
        due("liked", x.project(0, 1), 0);
        due("all", x.project(0, 2), 0);
        due("members", x.group(7, 0), 0);
        due("how many", x.group(7, 1), 0);
        due("cost", x.group(7, 2), 5);
        due("0 times 3 is no less than 5 times 0, but it has no members", x.group(7, 3), 0);
        no("served", x.isServed(1, 4, false));
        no("nearly", x.isServed(1, 4, true));
        noneSuch("vote", () -> x.vote(0, 0, true));
        noneSuch("score", () -> x.score(0, 0, 0));
        noneSuch("go", () -> x.go(true, 0));
    }

    private static void noProjects() {
        says("PROJECTS 0 to at most 11: none");
        SharedPurse x = of("budget 10;votes 4;law score;");
        for (int rule = 0; rule <= 8; rule++) {
            int r = rule;
            for (int what = 0; what <= 6; what++) {
                due("rule " + rule + " what " + what, x.outcome(rule, what), what == 5 ? 4 : 0);
            }
            for (int what = 0; what <= 4; what++) {
                due("groups " + what, x.groups(rule, what), what < 3 ? 0 : NONE);
            }
            noneSuch("chosen", () -> x.chosen(r, 0));
            due("served", x.served(rule, 3), 0);
            due("away", x.away(rule, 0), 0);
            due("with", x.with(rule, 99999), 0);
            due("ride", x.ride(rule, 0, 0), 0);
            due("ride by", x.ride(rule, 0, 1), NONE);
            noneSuch("push", () -> x.push(r, 0));
            noneSuch("discount", () -> x.discount(r, 0));
            noneSuch("voting", () -> x.voting(r, 0, 0, 0));
            noneSuch("isServed", () -> x.isServed(1, r, false) ? 1 : 0);
        }
        for (int rule = 0; rule <= 3; rule++) {
            due("all is left, nothing raised", x.left(rule, 3), 2500);
            due("paid for all", x.paid(rule, 0, NONE), 0);
        }
        noneSuch("group", () -> x.group(1, 0));
        noneSuch("price", () -> x.price(0, 0));
        noneSuch("step", () -> x.step(0, 0));
        due("costs", x.count(3), 0);
        due("the last one away", of("votes 1;budget 5;").away(0, 0), 0);
    }

    private static void fullRules() {
        says("PROJECTS to at most 11, VOTERS to at most 23: all");
        SharedPurse x = of(FULL + "law 9999;");
        for (int rule = 0; rule <= 8; rule++) {
            due("ten of rule " + rule, x.outcome(rule, 0), 1023);
            due("how many", x.outcome(rule, 1), 10);
            due("cost", x.outcome(rule, 2), 99990);
            due("worth", x.outcome(rule, 3), 2399760);
            due("to the worst", x.outcome(rule, 4), 99990);
            due("the last of them", x.chosen(rule, 9), 9);
            due("served", x.served(rule, 23), 99990);
        }
        // an eleventh would need 416250 more of each; the price is 42, the last one pays 9999000 less 23 * 419958
        due("raised", x.outcome(2, 6), 300);
        due("left", x.left(2, 23), 4466625 - 10 * 339966);
        due("left to all", x.left(2, NONE), 7209000);
        SharedPurse y = of(projects(12, 8333) + "budget 99999;" + all24("a1b1c1d1e1f1g1h1i1j1k1l1"));
        for (int rule = 0; rule <= 8; rule++) {
            due("twelve of rule " + rule, y.outcome(rule, 0), 4095);
            due("cost", y.outcome(rule, 2), 99996);
            due("the last of them", y.chosen(rule, 11), 11);
        }
    }

    private static void greedy() {
        says("it is chosen, if all that are chosen cost no more than the BUDGET with it");
        SharedPurse x = of("project a 5;project b 5;budget 10;votes 1 a 1 b 1;");
        for (int rule = 4; rule <= 5; rule++) {
            due("no more", x.outcome(rule, 0), 3);
            due("one more", x.with(rule, 9), 1);
            due("one", x.with(rule, 5), 1);
            due("none", x.with(rule, 4), 0);
        }
        says("the greatest number first, of like ones the lesser COST, then the least PROJECT");
        SharedPurse y = of("project a 2;project b 1;project c 1;project d 9;budget 13;votes 2 d 1;votes 1 a1b1c1;");
        due("the greatest number", y.chosen(4, 0), 3);
        due("the lesser cost", y.chosen(4, 1), 1);
        due("the least project", y.chosen(4, 2), 2);
        due("the last", y.chosen(4, 3), 0);
        says("RULES 5 GREEDY by ALL times 1000 by COST (cut)");
        // 2000 by 7, 1000 by 3, 0, 1000 by 1
        SharedPurse z = of("project a 7;project b 3;project c 1001;project d 1;budget 9999;"
                + "votes 1 a1b1;votes 1 a1;votes 1 d1;");
        due("1000", z.chosen(5, 0), 3);
        due("333", z.chosen(5, 1), 1);
        due("285", z.chosen(5, 2), 0);
        due("0", z.chosen(5, 3), 2);
        SharedPurse w = of("project a 1001;project b 1002;project c 2000;budget 9999;votes 1 a1b1;votes 2 c1;");
        due("2000 by 2000 is 1", w.chosen(5, 0), 2);
        due("cut to 0, the lesser cost", w.chosen(5, 1), 0);
        SharedPurse v = of("project a 1;project b 1;budget 1;votes 9 b2a1;votes 9 b2a1;votes 6 b2a1;law 9997+score;");
        due("239976000, no wrapping", v.outcome(5, 0), 2);
    }

    private static void filled() {
        says("RULES 1 FILLED: these, then GREEDY by ALL with what isn't chosen");
        SharedPurse x = of(PARK);
        due("20 fit behind 10", x.outcome(1, 0), 3);
        due("not with 29", x.with(1, 29), 1);
        due("all chosen, nothing to fill", x.with(1, 60), 3);
        due("nothing chosen, both filled", of("project a 1;project b 1;budget 2;").outcome(1, 0), 3);
        // nobody can pay; a has more votes, b more for its cost
        SharedPurse z = of("project a 5000;project b 2700;budget 5000;votes 3 a1;votes 2 b1;");
        due("by all, not by cost", z.outcome(1, 0), 1);
        due("by all, not by cost", z.outcome(3, 0), 1);
        due("with as much", z.with(1, 5000), 1);
        due("with as much", z.with(3, 5000), 1);
        // b is shared; then a, which has more votes, doesn't fit any more
        String small = "project a 4;project b 1;budget 4;votes 3 a1;votes 1 b1;";
        for (int rule = 0; rule <= 3; rule++) {
            due("b ahead", of(small).outcome(rule, 0), 2);
            due("b ahead", of(small).with(rule, 4), 2);
        }
        due("a ahead", of(small).outcome(4, 0), 1);
        says("RULES 3 RAISED AND FILLED");
        // both would come with 1000 more: 2 are too much, so purses stay; then a fits
        SharedPurse y = of("project a 1;project b 1;budget 1;votes 1 a 1;votes 1 b 1;");
        due("raised none", y.outcome(2, 0), 0);
        due("filled by a", y.outcome(3, 0), 1);
        due("raised", y.outcome(3, 6), 0);
        due("not paid", y.paid(3, 0, 0), 0);
        due("left", y.left(3, 0), 500);
    }

    private static void raised() {
        says("the last ones ahead of the first ones by which what is chosen costs more than the BUDGET");
        SharedPurse x = of("project a 1;votes 1 a 1;");
        due("with 1000 it costs more than 0", x.outcome(2, 6), 0);
        due("nothing", x.outcome(2, 0), 0);
        due("nothing raised", x.left(2, 0), 0);
        SharedPurse y = of("project a 300;votes 1 a 1;");
        due("the 300th is too much", y.outcome(2, 6), 299);
        due("raised", y.left(2, 0), 299000);
        says("costs more than the BUDGET: no less isn't more");
        // purses 1500: b; with 1000 more a too, 3 in all
        SharedPurse z = of("project a 2;project b 1;budget 3;votes 1 a 1;votes 1 b 1;");
        due("all for 3", z.outcome(2, 0), 3);
        due("raised once", z.outcome(2, 6), 1);
        // purses 1000: b; with 1000 more a too, 3 in all is more than 2
        SharedPurse w = of("project a 2;project b 1;budget 2;votes 1 a 1;votes 1 b 1;");
        due("b alone", w.outcome(2, 0), 2);
        due("not raised", w.outcome(2, 6), 0);
        SharedPurse v = of("project a 2;project b 1;project c 1;budget 2;votes 1 a 1;votes 1 b 1;");
        due("the same beside what nobody wants", v.outcome(2, 0), 2);
        due("not raised", v.outcome(2, 6), 0);
        due("were it so", v.with(2, 2), 2);
        says("ends also with the first ones by which all PROJECTS are chosen");
        due("at once", of("project a 1;budget 1;votes 1 a 1;").outcome(2, 6), 0);
        due("at once, with more than enough", of("project a 1;budget 99999;votes 1 a 1;").left(2, 0), 99998000);
        due("all of none", of("budget 5;votes 1;").outcome(2, 6), 0);
        due("none without voters either", of("budget 5;").outcome(3, 6), 0);
    }

    private static void raisedToTheEnd() {
        says("with PURSES 0, 1000, 2000, .. MILLS (at most 300 times 1000) more each");
        SharedPurse x = of("project a 600;budget 600;votes 1 a 1;votes 1;");
        due("300 times 1000 are enough", x.outcome(2, 0), 1);
        due("300 times", x.outcome(2, 6), 300);
        due("all paid", x.left(2, 0), 0);
        due("raised", x.left(2, 1), 600000);
        SharedPurse y = of("project a 598;budget 598;votes 1 a 1;votes 1;");
        due("299 times", y.outcome(2, 6), 299);
        due("chosen", y.outcome(2, 0), 1);
        says("or the last ones at all");
        SharedPurse z = of("project a 602;budget 602;votes 1 a 1;votes 1;");
        due("never", z.outcome(2, 0), 0);
        due("300 times", z.outcome(2, 6), 300);
        due("left", z.left(2, 0), 601000);
        due("by 3 filled", z.outcome(3, 0), 1);
        due("raised so too", z.outcome(3, 6), 300);
        due("what nobody wants never comes", of("project a 1;budget 9;votes 1;").outcome(2, 6), 300);
        due("the greatest", of("project a 1;budget 99999;votes 1;").left(2, 0), 100299000);
        due("the greatest to all", of("project a 1;budget 99999;" + all24("")).left(2, NONE), 107199000);
    }

    private static void most() {
        says("RULES 6 MOST: of all sets of PROJECTS that cost no more than the BUDGET");
        SharedPurse x = of("project a 5;project b 5;budget 10;votes 1 a 1 b 1;");
        due("no more", x.outcome(6, 0), 3);
        due("a mill less than both", x.with(6, 9), 1);
        due("none but the empty one", x.with(6, 4), 0);
        says("of several that which costs least, then the least as bits");
        due("worth nothing: the empty one", of("project a 1;budget 9;votes 1 a 1;law 0;").outcome(6, 0), 0);
        due("costs least", of("project a 3;project b 2;budget 3;votes 1 a 1 b 1;").outcome(6, 0), 2);
        // worths are costs: a and d, b and c are 5
        SharedPurse y = of("project a 1;project b 2;project c 3;project d 4;budget 5;votes 1 a1b2c3d4;law score;");
        due("the least as bits", y.outcome(6, 0), 6);
        due("by worst first as well", y.outcome(7, 0), 6);
        // b and c are 5 for 6, a and d 5 for 5
        due("later and costs less", of("project a 1;project b 3;project c 3;project d 4;budget 6;votes 1 a1b2c3d4;"
                + "law score;").outcome(6, 0), 9);
        due("the first by number", y.chosen(6, 0), 1);
        due("the next by number", y.chosen(6, 1), 2);
        noneSuch("no third", () -> y.chosen(6, 2));
    }

    private static void worstFirst() {
        says("RULES 7 WORST FIRST: whose WORTH to the VOTER to whom it is least is greatest (0 without VOTERS)");
        due("without voters", of("project a 1;budget 9;").outcome(7, 0), 0);
        due("one voter", of("project a 1;budget 9;votes 1 a 1;").outcome(7, 0), 1);
        // c gives 1 to each, a 9 to two
        SharedPurse x = of("project a 1;project b 1;project c 2;budget 2;votes 1 a 9 c 1;votes 1 a 9 c 1;votes 1 c 1;"
                + "law score;");
        due("most", x.outcome(6, 0), 1);
        due("worst first", x.outcome(7, 0), 4);
        due("its worst", x.outcome(7, 4), 1);
        SharedPurse y = of("project a 1;project b 1;project c 2;budget 2;votes 1 c 1;votes 2 a 9 c 1;law score;");
        due("the first is the worst", y.outcome(7, 0), 4);
        // 5, then 9 of all three; b or c alone is no help
        due("all three", of("project a 1;project b 1;project c 1;budget 3;votes 1 a5b4;votes 1 a5c4;law score;")
                .outcome(7, 0), 7);
        due("behind what nobody wants", of("project z 1;project a 1;project b 1;project c 1;budget 3;votes 1 a5b4;"
                + "votes 1 a5c4;law score;").outcome(7, 0), 14);
        due("to the worst", of("project z 1;project a 1;project b 1;project c 1;budget 3;votes 1 a5b4;"
                + "votes 1 a5c4;law score;").outcome(7, 4), 9);
        says("of several by MOST");
        // one voter has nothing of all: the worst is 0 of each set
        due("by worth", of("project a 1;project b 1;budget 1;votes 1;votes 2 b 1;").outcome(7, 0), 2);
        due("by cost", of("project a 2;project b 1;budget 2;votes 1;votes 1 a1b1;").outcome(7, 0), 2);
        due("by bits", of("project a 1;project b 1;budget 1;votes 1;votes 1 a1b1;").outcome(7, 0), 1);
        due("no more than the budget", of("project a 2;project b 3;budget 4;votes 1 a1b1;").outcome(7, 1), 1);
    }

    private static void time() {
        says("RULES 8 TIME: if all that are chosen would cost more than the BUDGET with it, all ends");
        SharedPurse x = of("project a 2;project b 3;project c 1;budget 5;votes 2 a 1;votes 1 b 1;");
        due("no more", x.outcome(8, 0), 3);
        due("one more", x.with(8, 4), 1);
        due("none", x.with(8, 1), 0);
        // a is due first and too dear; b would fit
        due("all ends", of("project a 4;project b 3;budget 3;votes 2 a 1;votes 1 b 1;").outcome(8, 0), 0);
        says("(What nobody LIKES is never due.)");
        due("c", x.with(8, 99999), 3);
        due("without voters", of("project a 1;budget 9;").outcome(8, 0), 0);
        says("VOTERS who LIKE it (SCORE above 0)");
        due("a worth of 0 doesn't matter", of("project a 1;budget 1;votes 1 a 1;law 0;").outcome(8, 0), 1);
        says("the one that is due first is next (of several as in EQUAL SHARES)");
        SharedPurse y = of("project a 1;project b 1;project c 2;budget 9;votes 1 b 1;votes 1 a 1;votes 2 c 1;");
        due("liked more", y.chosen(8, 0), 2);
        due("the least", y.chosen(8, 1), 0);
        due("the last", y.chosen(8, 2), 1);
        says("PURSES of those who LIKE it are 0 then");
        // a at 1000; then b, of the same one, at 2000, behind c at 1500 of two others
        SharedPurse z = of("project a 1;project b 1;project c 3;budget 9;votes 1 a 1 b 1;votes 2 c 1;");
        due("a", z.chosen(8, 0), 0);
        due("c", z.chosen(8, 1), 2);
        due("b", z.chosen(8, 2), 1);
        says("at which PURSES are 1000 times its COST together, or more");
        // x at 334, then its voters have 0: b at 668, a of one of them and another at 667
        SharedPurse w = of("project x 1;project b 1;project a 1;budget 9;votes 1 x1b1a1;votes 2 x1b1;votes 1 a1;");
        due("x", w.chosen(8, 0), 0);
        due("a", w.chosen(8, 1), 2);
        due("b", w.chosen(8, 2), 1);
        due("far ticks: one voter, ten of 9999", of(projects(12, 9999)
                + "budget 99999;votes 1 a1b1c1d1e1f1g1h1i1j1k1l1;").outcome(8, 1), 10);
    }

    private static void paidAndLeft() {
        says("PAID of a VOTER for a PROJECT is what one paid (0 for what was FILLED), LEFT what is in the PURSE");
        SharedPurse x = of(PARK);
        due("filled", x.paid(1, 0, 1), 0);
        due("shared", x.paid(1, 0, 0), 3334);
        due("for all", x.paid(1, 0, NONE), 3334);
        due("not chosen", x.paid(0, 0, 1), 0);
        due("left as ahead of filling", x.left(1, 0), 6666);
        due("raised", x.paid(2, 0, 1), 10000);
        due("for all", x.paid(2, 0, NONE), 13334);
        due("raised mills, too", x.left(2, 0), 666);
        due("of one who pays less", x.left(2, 2), 10668);
        due("the greatest", of("project a 9999;budget 99999;votes 1;").left(0, 0), 99999000);
        SharedPurse y = of(projects(11, 9090) + "budget 99990;votes 1 a1b1c1d1e1f1g1h1i1j1k1;");
        due("eleven of 9090", y.paid(0, 0, NONE), 99990000);
        due("nothing left", y.left(0, NONE), 0);
    }

    private static void groupsAndMembers() {
        says("A GROUP is a set of PROJECTS (not the empty one)");
        SharedPurse x = of(FULL);
        noneSuch("the empty one", () -> x.group(0, 0));
        due("the first", x.group(1, 2), 9999);
        due("all twelve", x.group(4095, 2), 119988);
        noneSuch("a 13th", () -> x.group(4096, 0));
        noneSuch("with a 13th", () -> x.group(4097, 0));
        noneSuch("below", () -> x.group(-1, 0));
        noneSuch("the sign", () -> x.group(LOW, 0));
        noneSuch("the greatest", () -> x.group(HIGH, 0));
        noneSuch("one of two", () -> of(PARK).group(4, 0));
        says("its MEMBERS are VOTERS to whom each of it has a WORTH above 0");
        due("all 24", x.group(4095, 0), 0xffffff);
        due("how many", x.group(4095, 1), 24);
        SharedPurse y = of("project a 1;project b 1;votes 9 a 1;votes 9;votes 5;votes 1 b 1 a 1;");
        due("the last alone", y.group(2, 0), 1 << 23);
        due("each of both", y.group(3, 0), 1 << 23);
        due("ten of a", y.group(1, 1), 10);
        due("worth 0", of("project a 1;votes 1 a 1;votes 1 a 2;law score-1;").group(1, 0), 2);
        due("none", of("project a 1;project b 1;votes 1 a 1;votes 1 b 1;").group(3, 0), 0);
    }

    private static void dueGroups() {
        says("It is DUE, if it has MEMBERS, and they times the BUDGET are no less than its COST times all VOTERS");
        SharedPurse x = of(PARK);
        due("2 * 30 is 20 * 3", x.group(2, 3), 1);
        due("3 * 30 is more than 10 * 3", x.group(1, 3), 1);
        due("2 * 30 is less than 30 * 3", x.group(3, 3), 0);
        x.budget(29);
        due("2 * 29 is less than 20 * 3", x.group(2, 3), 0);
        x.budget(0);
        due("no budget", x.group(1, 3), 0);
        due("no member", of("project a 1;budget 9;votes 1;").group(1, 3), 0);
        due("no voter", of("project a 1;budget 9;").group(1, 3), 0);
        SharedPurse y = of(FULL);
        due("ten", y.group(1023, 3), 1);
        due("eleven", y.group(2047, 3), 0);
        says("GROUPS that are DUE");
        // all sets of twelve but the empty one, twelve of eleven and one of twelve
        for (int rule = 0; rule <= 8; rule++) {
            due("of 4095", y.groups(rule, 0), 4082);
            due("not served", y.groups(rule, 1), 0);
            due("not nearly", y.groups(rule, 2), 0);
            due("the first", y.groups(rule, 3), NONE);
            due("the first", y.groups(rule, 4), NONE);
        }
        y.cost(0, 1);
        due("eleven with a", y.group(2047, 3), 1);
        due("a, c, both; b is too dear", of("project a 1;project b 9;project c 1;budget 3;votes 1 a1b1c1;")
                .groups(0, 0), 3);
    }

    private static void servedGroups() {
        says("It is SERVED by a RULE, if to some MEMBER what is chosen has no less WORTH than the GROUP");
        // a is 3 to the last one, b 3, c 4
        SharedPurse x = of("project a 6;project b 1;project c 1;budget 6;votes 2 a 3;votes 1 a 3 b 3 c 4;law score;");
        due("a", x.outcome(4, 0), 1);
        yes("no less", x.isServed(2, 4, false));
        no("one less", x.isServed(4, 4, false));
        says("NEARLY, if to some MEMBER what is chosen and some one PROJECT of the GROUP that isn't (or none)");
        yes("with c", x.isServed(4, 4, true));
        // 3 and 4 are 7, b and c are 7
        yes("no less", x.isServed(6, 4, true));
        no("not without", x.isServed(6, 4, false));
        yes("the one that is chosen: none", x.isServed(1, 4, true));
        // what is chosen doesn't count once more: a is 3, a and b and c are 10, with c 7
        no("one less than two of it", x.isServed(7, 4, true));
        SharedPurse y = of("project a 6;project b 1;project c 1;budget 6;votes 2 a 3;votes 1 a 3 b 4 c 4;law score;");
        no("3 and 4 are less than 8", y.isServed(6, 4, true));
        // b is chosen; a and c, of them a is missing and the most
        SharedPurse w = of("project a 3;project b 1;project c 9;budget 1;votes 1 a5b2c1;votes 3 b2;law score;");
        due("b", w.outcome(4, 0), 2);
        yes("2 and 5 are no less than 5 and 1", w.isServed(5, 4, true));
        yes("2 and 1 are no less than 1", w.isServed(4, 4, true));
        no("2 is less than 5", w.isServed(1, 4, false));
        groupsOfAll();
        says("to some MEMBER");
        no("no member: not served", of("project a 1;budget 9;votes 1;").isServed(1, 4, false));
        no("no member: not nearly", of("project a 1;budget 9;votes 1;").isServed(1, 4, true));
        says("the first that isn't SERVED (3), isn't NEARLY (4; as bits, the least; NONE)");
        SharedPurse z = of("project a 1;project b 1;project c 1;project d 9;budget 9;votes 1 a1b1c1;votes 2 d1;");
        due("d", z.outcome(4, 0), 8);
        due("due", z.groups(4, 0), 7);
        due("not served", z.groups(4, 1), 7);
        due("not nearly", z.groups(4, 2), 4);
        due("the first", z.groups(4, 3), 1);
        due("of two", z.groups(4, 4), 3);
        due("served all", z.groups(1, 1), 0);
        due("none", z.groups(1, 3), NONE);
        due("none", z.groups(1, 4), NONE);
        noneSuch("rule 9 of what 0 too", () -> z.groups(9, 0));
        noneSuch("rule -1 of what 0 too", () -> z.groups(-1, 0));
    }

    private static void groupsOfAll() {
        says("of these by a RULE not SERVED (1), not NEARLY (2)");
        // a, 3 to each, is chosen; the last has 1 of b, 4 of c; due are a, b, c, b and c
        SharedPurse x = of("project a 6;project b 1;project c 1;budget 6;votes 2 a3;votes 1 a3b1c4;law score;");
        due("due", x.groups(4, 0), 4);
        due("c, b and c", x.groups(4, 1), 2);
        due("c", x.groups(4, 3), 4);
        due("nearly all", x.groups(4, 2), 0);
        // two have 2 of b and 2 of c, and 3 of a, which is chosen
        SharedPurse y = of("project a 2;project b 1;project c 1;budget 2;votes 2 a3b2c2;law score;");
        due("a, b, c, b and c", y.groups(4, 0), 4);
        due("b and c", y.groups(4, 1), 1);
        due("b and c", y.groups(4, 3), 6);
        due("3 and 2", y.groups(4, 2), 0);
        // d, 10 to each, is chosen; the last of four is due each set of a, b, c, 2 of each
        SharedPurse z = of("project a 1;project b 1;project c 1;project d 12;budget 12;votes 3 d1;votes 1 a2b2c2d1;"
                + "law score+liked/4*9;");
        due("d", z.outcome(4, 0), 8);
        due("all sets of three, d", z.groups(4, 0), 8);
        due("10 of d are more than 2, 4, 6", z.groups(4, 1), 0);
        SharedPurse w = of("project a 1;project b 1;project c 1;project d 12;budget 12;votes 3 d5;votes 1 a2b2c2d1;"
                + "law score;");
        due("d", w.outcome(4, 0), 8);
        due("not served: all but d", w.groups(4, 1), 7);
        due("1 and 2 are less than 4, 6", w.groups(4, 2), 4);
        due("the first", w.groups(4, 4), 3);
    }

    private static void rides() {
        says("RIDE: by how much the WORTH (as it is) to it of what is chosen would be more; none, if none above 0");
        String text = "project a 3;project b 1;budget 4;votes 1 a 1 b 1;votes 3 a 1;";
        SharedPurse x = of(text);
        due("b more", x.ride(0, 0, 0), 1);
        due("by a", x.ride(0, 0, 1), 0);
        due("as much isn't more", x.ride(0, 3, 0), 0);
        due("by none", x.ride(0, 3, 1), NONE);
        says("of all PROJECTS with a SCORE above 0 of it");
        SharedPurse y = of("project a 1;budget 4;votes 1;votes 1 a 1;");
        due("it has none", y.ride(0, 0, 0), 0);
        due("none", y.ride(0, 0, 1), NONE);
        says("by which PROJECT (of several the least)");
        SharedPurse z = of("project a 3;project b 1;project c 3;budget 8;votes 1 a1b1c1;votes 3 a1c1;");
        due("a or c", z.ride(0, 0, 1), 0);
        due("1", z.ride(0, 0, 0), 1);
        says("RIDE of the last VOTER by the last PROJECT");
        SharedPurse w = of(projects(10, 999) + "project k 3;project l 72;budget 96;votes 9 l1;votes 9 l1;votes 5 l1;"
                + "votes 1 k1l1;");
        // purses of 4000; l takes 3000 of each, then the last one can't pay 3000 for k as well
        due("l first", w.outcome(0, 0), 1 << 11);
        due("by l", w.ride(0, 23, 1), 11);
        due("k more, l still", w.ride(0, 23, 0), 1);
    }

    private static void pushes() {
        says("PUSH: the fewest of those VOTERS with SCORE 0 for it, by numbers (the first 0, 1, 2, .. of them)");
        due("0: chosen already", of("project a 1;budget 1;votes 1 a 1;").push(0, 0), 0);
        SharedPurse x = of("project a 24;budget 24;" + all24(""));
        due("all 24", x.push(0, 0), 24);
        due("0 by filling", x.push(1, 0), 0);
        due("none is enough", of("project a 25;budget 24;" + all24("")).push(0, 0), NONE);
        due("23 of 24", of("project a 23;budget 24;" + all24("")).push(0, 0), 23);
        due("none with 0", of("project a 9;budget 1;votes 1 a 1;").push(0, 0), NONE);
        due("without voters", of("project a 1;budget 9;").push(0, 0), NONE);
        due("without voters, chosen", of("project a 1;budget 9;").push(4, 0), 0);
        says("who were to give it 9");
        due("9 is more than 8", of("project a 1;project b 1;budget 1;votes 1 b 8;votes 1;law score;").push(4, 0), 1);
        due("9 is no more than 9", of("project b 1;project a 1;budget 1;votes 1 b 9;votes 1;law score;").push(4, 1), 2);
        says("by numbers");
        // purses of 1000; a needs two: the first alone is too few, the next is the one who likes b
        SharedPurse y = of("project a 2;project b 1;budget 3;votes 1;votes 1 b 1;votes 1;law score;");
        due("the first two", y.push(0, 0), 2);
        due("nothing has changed", y.vote(0, 0, false), 0);
    }

    private static void discounts() {
        says("DISCOUNT: the least number of tenths (0 to 9)");
        due("0: chosen already", of("project a 9999;budget 9999;").discount(4, 0), 0);
        due("1: 8999", of("project a 9999;budget 8999;").discount(4, 0), 1);
        due("2: 7999", of("project a 9999;budget 8998;").discount(4, 0), 2);
        due("9: 999", of("project a 9999;budget 999;").discount(4, 0), 9);
        due("none", of("project a 9999;budget 998;").discount(4, 0), NONE);
        due("8: 1999", of("project a 9999;budget 1999;").discount(4, 0), 8);
        due("nobody pays", of("project a 1;budget 9;votes 1;").discount(0, 0), NONE);
        says("COST times what is left of ten tenths by 10, cut");
        due("19 * 9 by 10 is 17", of("project a 19;budget 17;").discount(4, 0), 1);
        due("19 * 8 by 10 is 15", of("project a 19;budget 16;").discount(4, 0), 2);
        says("1 at least");
        for (int rule = 0; rule <= 8; rule++) {
            due("9 tenths less of 9 is 1, not 0", of("project a 9;votes 1 a 1;").discount(rule, 0), NONE);
            due("of 1", of("project a 1;votes 1 a 1;").discount(rule, 0), NONE);
        }
        due("8 tenths less of 9 is 1", of("project a 9;budget 1;").discount(4, 0), 8);
        says("the COST would have to be less (a LAW sees it so)");
        // at 8 it fits, but is worth 8 only, less than b
        due("never", of("project a 20;project b 9;budget 9;votes 1 a1b1;law cost;").discount(4, 0), NONE);
        due("5 tenths", of("project a 20;project b 9;budget 10;votes 1 a1b1;law cost;").discount(4, 0), 5);
        due("nothing has changed", of("project a 9;budget 1;").project(0, 0), 9);
    }

    private static void whatWouldBe() {
        says("What would be chosen, with what is there");
        sameWould(PARK);
        sameWould(FULL);
        sameWould("project a 2;project b 1;budget 2;votes 1 a 1;votes 1 b 1;");
        sameWould("project a 4;project b 1;budget 4;votes 3 a1;votes 1 b1;");
        sameWould("project a 1;project b 1;project c 3;budget 9;votes 1 a 1 b 1;votes 2 c 1;law score*3;");
        says("What would be chosen, were a VOTER away");
        int[] bits = {0, 1, 0, 1, 1, 1, 0, 0, 0};
        SharedPurse x = of("project a 1;budget 1;votes 1 a 1;");
        for (int rule = 0; rule <= 8; rule++) {
            due("as it is", x.outcome(rule, 0), 1);
            due("the only one, rule " + rule, x.away(rule, 0), bits[rule]);
        }
        SharedPurse y = of(FULL);
        due("the last of 24", y.away(0, 23), 1023);
        noneSuch("a 25th", () -> y.away(0, 24));
        SharedPurse v = of("project a 1;project b 1;budget 1;votes 1 a 1;votes 1 b 1;");
        due("the first away", v.away(4, 0), 2);
        due("the last away", v.away(4, 1), 1);
        says("with another BUDGET");
        due("0", y.with(0, 0), 0);
        due("99999", y.with(0, 99999), 1023);
        illegal("-1", () -> y.with(0, -1));
        illegal("100000", () -> y.with(0, 100000));
        says("with another SCORE");
        SharedPurse z = of("project a 1;project b 1;budget 1;votes 1 a 1 b 8;law score;");
        due("9", z.voting(4, 0, 0, 9), 1);
        due("the same", z.voting(4, 0, 0, 1), 2);
        due("0", z.voting(4, 0, 1, 0), 1);
        illegal("10", () -> z.voting(4, 0, 0, 10));
        illegal("-1", () -> z.voting(4, 0, 0, -1));
        due("the last of all", y.voting(4, 23, 11, 0), 1023);
        due("the least likes a least", y.voting(4, 23, 0, 0), 2046);
    }
}
