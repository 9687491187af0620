/** Each promise by its number: ordinary calls, the edges that the document names, wrong calls; reckoned by hand. */
public final class PromisesTest extends Checks {
    public static void main(String[] args) {
        newObject();
        feeding();
        elections();
        faults();
        laws();
        counts();
        projectsAndVotes();
        equalShares();
        ties();
        raised();
        greedyRules();
        bestSets();
        time();
        groupsDue();
        whatWouldBe();
        rides();
        pushesAndDiscounts();
        acts();
        going();
        images();
        wrongCalls();
        finish("all promises are kept");
    }

    private static void newObject() { // promise 1
        SharedPurse x = new SharedPurse();
        for (int what = 0; what <= 6; what++) {
            due("count of a new one", x.count(what), 0);
        }
        due("NONE", SharedPurse.NONE, -1);
        due("fault", x.fault(), -1);
        due("undo", x.undo(), -1);
        no("back", x.back());
        for (int rule = 0; rule <= 8; rule++) {
            for (int what = 0; what <= 6; what++) {
                due("outcome of nothing", x.outcome(rule, what), 0);
            }
            due("groups of nothing", x.groups(rule, 0), 0);
            due("groups of nothing", x.groups(rule, 3), -1);
            due("with", x.with(rule, 99999), 0);
        }
        due("left to nobody", x.left(0, -1), 0);
    }

    private static void feeding() { // promise 2
        SharedPurse x = new SharedPurse();
        for (int k = 1; k <= 25; k++) {
            due("feed", x.feed(0x20202020, 0x20202020, 0x20202020, 0x20202020, 0x20202020), 20 * k);
        }
        due("feed beyond 500", x.feed(0, 0, 0, 0, 0), -1);
        due("the tape", x.count(5), 500);
        due("500 blanks", x.election(500), 0);
        due("the tape is empty", x.count(5), 0);
        // the highest byte comes first: "law " "1;  "
        due("feed", x.feed(0x6c617720, 0x313b2020, 0x20202020, 0x20202020, 0x20202020), 20);
        due("election", x.election(6), 0);
        due("law", x.count(6), 1);
        due("feed", x.feed(-1, -1, -1, -1, -1), 20);
        due("bytes 255", x.election(1), -11);
        due("place", x.fault(), 0);
    }

    private static void elections() { // promises 3, 4
        SharedPurse x = new SharedPurse();
        illegal("election(1) of nothing", () -> x.election(1));
        feed(x, "projec");
        illegal("election(21)", () -> x.election(21));
        illegal("election(-1)", () -> x.election(-1));
        illegal("election(low)", () -> x.election(LOW));
        due("nothing changes", x.count(5), 20);
        due("a fault", x.election(6), -11);
        due("its place", x.fault(), 0);
        illegal("election(1)", () -> x.election(1));
        due("the place is kept", x.fault(), 0);
        due("election(0)", x.election(0), 0);
        due("no fault now", x.fault(), -1);
        good("", 0);
        good("  \n ", 0);
        good("project a 1;", 1);
        good("project a1;project b2;votes1a1b9;budget007;law1;", 2);
        good("project xudget 1;project xotes 1;project xaw 1;votes 1 xaw 1;", 3);
        good("project\n a  \n 0009999 ;", 1);
        good("project score 1;project cost 1;project liked 1;project voters 1;votes 1 voters 9 score 0;", 4);
        good(projects(12), 12);
        good("votes 9;votes 9;votes 6;", 0);
        SharedPurse y = of("budget 5;budget 0000000000000000000007;project a 3;votes 2 a 9;project b 4;votes 1 b 2 a 1;");
        due("the last budget counts", y.count(2), 7);
        due("votes ahead of a project", y.vote(1, 1, false), 0);
        due("votes behind", y.vote(2, 1, false), 2);
        due("votes", y.vote(0, 0, false), 9);
        due("a budget is 0 at first", of("project a 1;").count(2), 0);
        SharedPurse z = of(PARK);
        z.budget(1);
        read(z, "project c 3;");
        due("no acts are kept", z.count(4), 0);
        due("a new budget", z.count(2), 0);
        due("a new election has no voters", z.count(1), 0);
        z.budget(1);
        read(z, "project");
        due("acts stay with a fault", z.count(4), 1);
    }

    private static void faults() {
        fault(";", 1, 0);
        fault("  project", 1, 9);
        fault("project  ", 1, 9);
        fault("a 1;", 1, 0);
        fault("projects a 1;", 1, 0);
        fault("7;", 1, 0);
        fault("budget 1", 1, 8);
        fault("budget ;", 1, 7);
        fault("budget 1 2;", 1, 9);
        fault("budget -1;", 1, 7);
        fault("budget 100000;", 2, 7);
        fault("budget 99999999999999999999999;", 2, 7);
        fault("budget\t1;", 1, 6);
        fault("Budget 1;", 1, 0);
        fault("xudget 1;", 1, 0);
        fault("budgex 1;", 1, 0);
        fault("xroject a 1;", 1, 0);
        fault("xotes 1;", 1, 0);
        fault("xaw 1;", 1, 0);
        fault("law xcore;", 1, 4);
        fault("project 1 a;", 1, 8);
        fault("project abcdefg 1;", 1, 8);
        fault("project law 1;", 1, 8);
        fault("project votes 1;", 1, 8);
        fault("project budget 1;", 1, 8);
        fault("project project 1;", 1, 8);
        fault("project a 0;", 2, 10);
        fault("project a 10000;", 2, 10);
        fault("project a;", 1, 9);
        fault("project a 1 a;", 1, 12);
        fault("project a 1;project a 0;", 3, 20);
        fault("votes;", 1, 5);
        fault("votes 0;", 2, 6);
        fault("votes 10;", 2, 6);
        fault("votes a;", 1, 6);
        fault("votes 1 a 1;", 3, 8);
        fault("votes 1 law 1;", 1, 8);
        fault("votes 1 abcdefg 1;", 1, 8);
        fault("votes 1 1;", 1, 8);
        fault("project a 1;votes 1 a 10;", 2, 22);
        fault("project a 1;votes 1 a;", 1, 21);
        fault("project a 1;votes 1 a 1 a 1;", 3, 24);
        fault("project a 1;votes 1 a 1 b 1;project b 1;", 3, 24);
        fault("project ab 1;votes 1 a 1;", 3, 21);
        fault("votes 9;votes 9;votes 7;", 4, 22);
        fault("votes 9;votes 9;votes 10;", 2, 22);
        fault(projects(12) + "project", 4, 144);
        fault(projects(12) + "project a 0", 4, 144);
        fault("law 1;law 1;", 5, 6);
        fault("law 1; law", 5, 7);
        fault("law ;", 1, 4);
        fault("law", 1, 3);
        fault("law 1+;", 1, 6);
        fault("law 1 1;", 1, 6);
        fault("law -1;", 1, 4);
        fault("law (1;", 1, 6);
        fault("law 1);", 1, 5);
        fault("law ();", 1, 5);
        fault("law 10000;", 2, 4);
        fault("law scores;", 1, 4);
        fault("law 1+budget;", 1, 6);
        fault("law ((((((1+(1", 4, 12);
        fault("law 1+(((((((", 4, 12);
        fault("law 1((((((((", 1, 5);
        good("law ((((((1))))))+((((((2))))));", 0);
        good("law (((((1)+(2)))))/(3);", 0);
        // the first token counts, not the least fault
        fault("project a 0;law 1;law", 2, 10);
    }

    private static int worthBy(String law) {
        SharedPurse x = of("project a 50;votes 3 a 7;votes 2;law " + law + ";");
        return x.vote(0, 0, true);
    }

    private static void laws() {
        due("score", worthBy("score"), 7);
        due("cost", worthBy("cost"), 50);
        due("liked", worthBy("liked"), 3);
        due("voters", worthBy("voters"), 5);
        due("from the left", worthBy("20-5-3"), 12);
        due("from the left", worthBy("100/7*7"), 98);
        due("strength", worthBy("2+3*4-10/3"), 11);
        due("brackets", worthBy("(2+3)*(4-(1+1))"), 10);
        due("cut towards 0", worthBy("100+(3-10)/2"), 97);
        due("deep", worthBy("1+2*(1+2*(1+2*(1+2*(1+2*(1+2*(1+2*3))))))"), 511);
        due("deep and back", worthBy("((((((3))))))-2*(((((1/1)*1)+0)-0)+0)+8/(2+2)"), 3);
        due("by 0", worthBy("5+9/(score-7)"), 5);
        due("kept to 0", worthBy("3-10"), 0);
        due("kept to 9999", worthBy("9999+1"), 9999);
        due("9999", worthBy("9999"), 9999);
        // 99980001 * 43 is 4299140043, less 2 to the 32: 4172747
        due("wraps", worthBy("9999*9999*43/1000"), 4172);
        // 65536 * 32768 is the least int; by 0 - 1 it stays so
        due("the least int", worthBy("256*256*256*128/(0-1)+5"), 0);
        due("least int less 1", worthBy("(256*256*256*128-1)/1000/1000"), 2147);
        SharedPurse x = of("law score*0;project a 1;votes 1 a 1;votes 1;");
        due("a law ahead", x.vote(0, 0, true), 0);
        due("no vote, no worth", of("project a 1;votes 1;law 5;").vote(0, 0, true), 0);
        due("without a law", of("project a 1;votes 1 a 9;").vote(0, 0, true), 1);
    }

    private static void counts() { // promise 5
        SharedPurse x = of(PARK);
        due("projects", x.count(0), 2);
        due("voters", x.count(1), 3);
        due("budget", x.count(2), 30);
        due("costs", x.count(3), 30);
        due("acts", x.count(4), 0);
        x.feed(0, 0, 0, 0, 0);
        due("tape", x.count(5), 20);
        due("law", x.count(6), 0);
    }

    private static void projectsAndVotes() { // promises 6, 7
        SharedPurse x = of("project abcdef 9;project z 9999;votes 2 z 3 abcdef 1;votes 1 z 9;law score*2;");
        due("cost", x.project(1, 0), 9999);
        due("liked", x.project(1, 1), 3);
        due("all", x.project(1, 2), 30);
        for (int i = 0; i < 6; i++) {
            due("letter", x.project(0, 3 + i), 1 + i);
            due("letter", x.project(1, 3 + i), i == 0 ? 26 : 0);
        }
        due("score", x.vote(2, 1, false), 9);
        due("worth", x.vote(2, 1, true), 18);
        due("score", x.vote(2, 0, false), 0);
        due("worth", x.vote(2, 0, true), 0);
    }

    private static void equalShares() { // promises 8 to 14
        SharedPurse x = of(PARK);
        // a: r 3334 of three purses of 10000; voter 2 pays the rest, 3332; then b can't have 20000
        due("chosen", x.outcome(0, 0), 1);
        due("how many", x.outcome(0, 1), 1);
        due("cost", x.outcome(0, 2), 10);
        due("worth", x.outcome(0, 3), 3);
        due("to the worst", x.outcome(0, 4), 1);
        due("unserved", x.outcome(0, 5), 0);
        due("one is unserved, the last", of("project a 1;budget 9;votes 2 a 1;votes 1;").outcome(0, 5), 1);
        due("the first", of("project a 1;budget 9;votes 1;votes 2 a 1;").outcome(4, 5), 1);
        due("to the first", of("project a 1;budget 9;votes 1;votes 2 a 1;").outcome(4, 4), 0);
        due("to the only one", of("project a 1;budget 9;votes 1 a 1;law 7;").outcome(4, 4), 7);
        due("paid", x.paid(0, 1, 0), 3334);
        due("paid", x.paid(0, 2, 0), 3332);
        due("paid for all", x.paid(0, 2, -1), 3332);
        due("paid for what isn't chosen", x.paid(0, 0, 1), 0);
        due("left", x.left(0, 2), 6668);
        due("left to all", x.left(0, -1), 20000);
        due("price at first", x.price(1, 0), 10000);
        due("price then", x.price(1, 1), -1);
        due("price of what is chosen", x.price(0, 1), -1);
        due("step", x.step(0, 0), 3334);
        due("who pays", x.step(0, 1), 3);
        due("who has paid all", x.step(0, 2), 0);
        // filled up by b; paid is 0 for it
        due("filled", x.outcome(1, 0), 3);
        due("filled comes behind", x.chosen(1, 1), 1);
        due("for what is filled", x.paid(1, 0, 1), 0);
        due("as ahead of it", x.left(1, -1), 20000);
        due("served", x.served(1, 2), 1);
        due("served", x.served(1, 1), 2);
        // worths 3, 1: purses of 500; r * 3 above the purse: r 500 of the second
        SharedPurse y = of("project a 1;budget 1;votes 1 a 3;votes 1 a 1;law score;");
        due("price", y.price(0, 0), 500);
        due("who has paid all", y.step(0, 2), 2);
        due("nothing left", y.left(0, -1), 0);
        // 1000 of 333 each is too much
        SharedPurse z = of("project a 1;budget 1;votes 3 a 1;");
        due("cut purses", z.left(0, 0), 333);
        due("no price", z.price(0, 0), -1);
        due("none chosen", z.outcome(0, 0), 0);
        // r 1 at least: 24 * 9999 mills are more than 1000; the first pays it all
        SharedPurse w = of("project a 1;budget 99999;votes 9 a 1;votes 9 a 1;votes 6 a 1;law 9999;");
        due("the least r", w.price(0, 0), 1);
        due("the first pays all", w.paid(0, 0, 0), 1000);
        due("who pays", w.step(0, 1), 1);
        // the last who pays has nothing left, those behind pay nothing: not counted
        SharedPurse v = of("project a 2;budget 3;votes 3 a 1;law 1000;");
        due("r of 1", v.price(0, 0), 1);
        due("two pay", v.step(0, 1), 2);
        due("both have paid all", v.step(0, 2), 2);
        due("the third has all", v.left(0, 2), 1000);
        // 333 of three, 1 of the fourth
        SharedPurse u = of("project a 1;budget 9;votes 5 a 1;law 333;");
        due("who pays 1 pays", u.step(0, 1), 4);
        due("the fourth", u.paid(0, 3, 0), 1);
        due("the fifth", u.paid(0, 4, 0), 0);
        due("none without voters", of("project a 1;budget 9;").price(0, 0), -1);
        due("left to all without voters", of("project a 1;budget 9;").left(2, -1), 0);
    }

    private static void ties() {
        // both at 1000; b is liked by two, a by one
        SharedPurse x = of("project a 1;project b 2;budget 9;votes 1 a 1;votes 2 b 1;");
        due("liked more", x.chosen(0, 0), 1);
        due("then the other", x.chosen(0, 1), 0);
        SharedPurse y = of("project a 1;project b 1;budget 9;votes 1 b 1;votes 1 a 1;");
        due("the least", y.chosen(0, 0), 0);
        // the less price goes ahead of what is liked more
        SharedPurse z = of("project a 8;project b 1;budget 20;votes 4 a 1;votes 1 b 2;law score;");
        due("less price", z.chosen(0, 0), 1);
        due("its price", z.step(0, 0), 500);
        due("the other's", z.step(1, 0), 2000);
        // once b has taken of the purse of all, a costs its others more
        SharedPurse w = of("project a 6;project b 2;budget 6;votes 1 a 1 b 1;votes 1 a 1;votes 1 b 1;");
        due("b first", w.chosen(0, 0), 1);
        due("a at first", w.price(0, 0), -1);
    }

    private static void raised() {
        SharedPurse x = of(PARK);
        // a 3334 each, b needs 20000 of two: purses of 13334 or more
        due("raised", x.outcome(2, 6), 4);
        due("all chosen", x.outcome(2, 0), 3);
        due("left with raised mills", x.left(2, 0), 666);
        due("left", x.left(2, 2), 10668);
        due("paid", x.paid(2, 0, 1), 10000);
        due("raised by 3 too", x.outcome(3, 6), 4);
        due("not raised by 1", x.outcome(1, 6), 0);
        // a 10, b 10, money for one: raised until both would come
        SharedPurse y = of("project a 10;project b 10;budget 15;votes 2 a 1;votes 1 b 1;");
        // purses 5000: a at 5000 each; b at 10000: five more; then 20 is too much: the ones ahead
        due("the last ones ahead", y.outcome(2, 6), 4);
        due("a alone", y.outcome(2, 0), 1);
        due("left", y.left(2, 2), 9000);
        due("3 fills nothing", y.outcome(3, 0), 1);
        // no one wants b: never all, never too much
        SharedPurse z = of("project a 1;project b 1;budget 5;votes 1 a 1;");
        due("the last ones at all", z.outcome(2, 6), 300);
        due("left", z.left(2, 0), 304000);
        due("filled", z.outcome(3, 0), 3);
        due("chosen last", z.chosen(3, 1), 1);
        due("without voters", of("project a 1;").outcome(2, 6), 300);
        due("without projects", of("votes 1;budget 3;").outcome(2, 6), 0);
        // 300 is enough for 300 with nothing at first, and then it is more than the budget
        due("300 is too much", of("project a 300;votes 1 a 1;").outcome(2, 6), 299);
        due("301 never comes", of("project a 301;votes 1 a 1;").outcome(2, 6), 300);
    }

    private static void greedyRules() {
        SharedPurse x = of("project a 10;project b 5;project c 3;project d 3;budget 13;"
                + "votes 2 a 1 c 1;votes 1 a 1 b 1;votes 1 d 1 b 1;");
        // ALL 3 2 2 1: a, then c (less cost) ahead of b, which doesn't fit
        due("by all", x.outcome(4, 0), 5);
        due("a first", x.chosen(4, 0), 0);
        due("then c", x.chosen(4, 1), 2);
        // by cost 300 400 666 333: c b d, and a doesn't fit
        due("by cost", x.outcome(5, 0), 14);
        due("c first", x.chosen(5, 0), 2);
        due("then b", x.chosen(5, 1), 1);
        due("then d", x.chosen(5, 2), 3);
        // goes on behind what doesn't fit, also to what nobody wants
        SharedPurse y = of("project a 9;project b 2;project c 1;budget 3;votes 1 a 1;");
        due("what fits", y.outcome(4, 0), 6);
        due("less cost first", y.chosen(4, 0), 2);
        // 1000 / 3 and 2000 / 6 alike, 333; then the lesser cost
        SharedPurse z = of("project a 6;project b 3;budget 9;votes 1 a 1 b 1;votes 1 a 1;");
        due("cut alike", z.chosen(5, 0), 1);
        due("the least", of("project a 3;project b 3;budget 3;votes 1 a 1 b 1;").outcome(4, 0), 1);
        due("filled with what isn't wanted", of("project a 1;budget 1;").outcome(1, 0), 1);
    }

    private static void bestSets() {
        SharedPurse x = of("project a 6;project b 5;project c 5;budget 10;"
                + "votes 3 a 9;votes 2 b 7;votes 1 c 9;law score;");
        // 27, 14, 9: b and c are 23; the most is a
        due("most", x.outcome(6, 0), 1);
        // worst first: no set serves all, all have 0 at worst: by most
        due("worst first", x.outcome(7, 0), 1);
        SharedPurse y = of("project a 6;project b 5;project c 5;budget 10;"
                + "votes 2 a 9 b 1;votes 2 a 9 c 1;law score;");
        due("most", y.outcome(6, 0), 1);
        due("worst first", y.outcome(7, 0), 1);
        SharedPurse z = of("project a 6;project b 5;project c 5;budget 10;"
                + "votes 3 a 9 b 1;votes 1 c 2;law score;");
        due("most", z.outcome(6, 0), 1);
        due("worst first", z.outcome(7, 0), 6);
        due("to the worst", z.outcome(7, 4), 1);
        due("by numbers", z.chosen(7, 0), 1);
        due("by numbers", z.chosen(7, 1), 2);
        // alike: the less cost, then the least bits
        due("less cost", of("project a 3;project b 2;budget 3;votes 1 a 1 b 1;").outcome(6, 0), 2);
        due("least bits", of("project a 2;project b 2;budget 3;votes 1 a 1 b 1;").outcome(6, 0), 1);
        due("not what is worth nothing", of("project a 1;project b 1;budget 3;votes 1 b 1;").outcome(6, 0), 2);
        due("nor without voters", of("project a 1;budget 3;").outcome(7, 0), 0);
        due("all that fits", of(projects(12) + "budget 12;votes 1 a1b1c1d1e1f1g1h1i1j1k1l1;").outcome(6, 0), 4095);
    }

    private static void time() {
        SharedPurse x = of("project a 6;project b 4;project c 1;budget 99;votes 2 a 1 b 1;votes 1 b 1;");
        // b at 4000 / 3: 1334, then a at 1334 + 3000; c never
        due("b first", x.chosen(8, 0), 1);
        due("then a", x.chosen(8, 1), 0);
        due("how many", x.outcome(8, 1), 2);
        // all ends where it costs too much, though c would fit
        SharedPurse y = of("project a 2;project b 9;project c 3;budget 5;votes 4 b 1;votes 1 a 1;votes 1 c 1;");
        due("ends", y.outcome(8, 0), 1);
        // due at the same tick: liked more
        SharedPurse z = of("project a 1;project b 2;budget 5;votes 1 a 1;votes 2 b 1;");
        due("liked more", z.chosen(8, 0), 1);
        due("both", z.outcome(8, 1), 2);
        due("the least", of("project a 1;project b 1;budget 1;votes 1 a 1;votes 1 b 1;").outcome(8, 0), 1);
        // it is score that counts, not worth
        due("liked without worth", of("project a 1;budget 1;votes 1 a 1;law 0;").outcome(8, 0), 1);
        // x at 334; then a at (1000 + 334) / 2 = 667, b at 334 + 334 = 668; no tick is cut, none is added
        SharedPurse w = of("project x 1;project b 1;project a 1;budget 9;votes 1 x1b1a1;votes 2 x1b1;votes 1 a1;");
        due("x", w.chosen(8, 0), 0);
        due("a", w.chosen(8, 1), 2);
        due("b", w.chosen(8, 2), 1);
        // far ticks: 12 of 9999
        StringBuilder far = new StringBuilder("budget 99999;");
        for (char c = 'a'; c < 'm'; c++) {
            far.append("project ").append(c).append("9999;");
        }
        due("far ticks", of(far + "votes 9a1b1c1d1e1f1g1h1i1j1k1l1;votes 9l1k1j1;votes 6c1;").outcome(8, 1), 10);
    }

    private static void groupsDue() { // promises 15, 16, 17
        SharedPurse x = of(PARK);
        due("members", x.group(3, 0), 3);
        due("how many", x.group(3, 1), 2);
        due("cost", x.group(3, 2), 30);
        due("not due: 2 * 30 below 30 * 3", x.group(3, 3), 0);
        due("due: 2 * 30 is 20 * 3", x.group(2, 3), 1);
        due("due", x.group(1, 3), 1);
        yes("as well served by a", x.isServed(2, 0, false));
        no("both aren't", x.isServed(3, 0, false));
        yes("nearly", x.isServed(3, 0, true));
        due("due", x.groups(0, 0), 2);
        due("not served", x.groups(0, 1), 0);
        due("none", x.groups(0, 3), -1);
        due("none", x.groups(0, 4), -1);
        SharedPurse y = of("project a 1;project b 1;project c 1;project d 9;budget 9;"
                + "votes 1 a 1 b 1 c 1;votes 2 d 1;");
        // by greedy d alone; voter 0 is due each set of a, b, c
        due("d", y.outcome(4, 0), 8);
        due("due", y.groups(4, 0), 7);
        due("not served", y.groups(4, 1), 7);
        due("not nearly: two or three", y.groups(4, 2), 4);
        due("the first", y.groups(4, 3), 1);
        due("the first not nearly", y.groups(4, 4), 3);
        due("d isn't due", y.group(8, 3), 0);
        no("nobody is a member", y.isServed(9, 4, true));
        due("no members", y.group(9, 0), 0);
        due("no members, not due", y.group(9, 3), 0);
        // a member is by worth, not by score
        due("worth 0", of("project a 1;budget 9;votes 1 a 1;law 0;").group(1, 0), 0);
        due("24 voters", of("project a 1;budget 9;votes 9 a 1;votes 9 a 1;votes 6 a 1;").group(1, 0), (1 << 24) - 1);
        // a is chosen, worth 3 to the last voter, who has 1 + 4 of b and c: 3 + 1 wouldn't do
        SharedPurse w = of("project a 6;project b 1;project c 1;budget 6;votes 2 a 3;votes 1 a 3 b 1 c 4;law score;");
        due("a", w.outcome(4, 0), 1);
        due("due: a, b, c, both", w.groups(4, 0), 4);
        due("c, both", w.groups(4, 1), 2);
        due("c", w.groups(4, 3), 4);
        due("nearly all", w.groups(4, 2), 0);
        due("none", w.groups(4, 4), -1);
        yes("nearly", w.isServed(6, 4, true));
        no("not quite", w.isServed(6, 4, false));
        // what is chosen, worth 3, the group 2 + 2; with one of it 5
        SharedPurse z = of("project a 2;project b 1;project c 1;budget 2;votes 2 a 3 b 2 c 2;law score;");
        due("the most", z.outcome(4, 0), 1);
        due("not served", z.groups(4, 1), 1);
        due("b and c", z.groups(4, 3), 6);
        due("nearly all", z.groups(4, 2), 0);
    }

    private static void whatWouldBe() { // promises 18, 19, 20
        SharedPurse x = of(PARK);
        due("without the third: purses of 15000", x.away(0, 2), 3);
        due("without the first: 15000, b can't", x.away(0, 0), 1);
        due("with 60", x.with(0, 60), 3);
        due("with 9: 3000 each", x.with(0, 9), 0);
        due("with 0", x.with(4, 0), 0);
        due("were it voted for", x.voting(0, 2, 1, 1), 3);
        due("as it is", x.voting(0, 0, 1, 9), 1);
        due("voted off", x.voting(0, 2, 0, 0), 1);
        due("nothing has changed", x.count(2) * 100 + x.count(1) * 10 + x.count(4), 3030);
        due("nor this", x.outcome(0, 0), 1);
        // the law counts voters, liked
        SharedPurse y = of("project a 1;project b 1;budget 1;votes 2 a 1;votes 1 b 1;law voters-2;");
        due("a has 2", y.outcome(6, 0), 1);
        due("worth nothing with two", y.away(6, 0), 0);
        SharedPurse z = of("project a 1;project b 1;budget 1;votes 1 a 1;votes 2 b 1;law 10/liked/liked;");
        due("10 against 2 times 2", z.outcome(4, 0), 1);
        due("10 against 10: the least", z.voting(4, 1, 1, 0), 1);
        due("2 times 2 against 2 times 2", z.voting(4, 1, 0, 1), 1);
        due("the last one away", of("project a 1;budget 1;votes 1 a 1;").away(0, 0), 0);
        due("greedy without voters", of("project a 1;budget 1;votes 1 a 1;").away(4, 0), 1);
    }

    private static void rides() { // promise 21
        // a is 2, b 2; all want a; voter 0 wants b too: without its vote for a it can pay for b
        SharedPurse x = of("project a 3;project b 1;budget 4;votes 1 a 1 b 1;votes 3 a 1;");
        // purses 1000: a at 750; then 250 is too little for b
        due("a", x.outcome(0, 0), 1);
        // without its vote: a at 1000 of three, b of the first
        due("ride", x.ride(0, 0, 0), 1);
        due("by", x.ride(0, 0, 1), 0);
        due("none", x.ride(0, 1, 0), 0);
        due("none", x.ride(0, 1, 1), -1);
        due("nothing has changed", x.outcome(0, 0), 1);
        // worth as it is: a 3, b 5 of scores
        SharedPurse y = of("project a 3;project b 1;budget 4;votes 1 a 9 b 5;votes 3 a 9;law score;");
        due("5 more", y.ride(0, 0, 0), 5);
        // the same behind a project that is nothing to it
        SharedPurse z = of("project x 9;project a 3;project b 1;budget 4;votes 1 a 1 b 1;votes 3 a 1;");
        due("ride", z.ride(0, 0, 0), 1);
        due("by", z.ride(0, 0, 1), 1);
        // a and c are the same to all: each of them held back gives b, 750 + 750 are too much for one
        SharedPurse w = of("project a 3;project b 1;project c 3;budget 8;votes 1 a 1 b 1 c 1;votes 3 a 1 c 1;");
        due("a and c", w.outcome(0, 0), 5);
        due("b with it", w.voting(0, 0, 0, 0), 7);
        due("b with it", w.voting(0, 0, 2, 0), 7);
        due("ride", w.ride(0, 0, 0), 1);
        due("the least of several", w.ride(0, 0, 1), 0);
        due("by all rules: none of most", x.ride(6, 0, 0), 0);
    }

    private static void pushesAndDiscounts() { // promises 22, 23
        SharedPurse x = of(PARK);
        due("chosen already", x.push(0, 0), 0);
        due("one more", x.push(0, 1), 1);
        due("chosen already", x.discount(0, 0), 0);
        // 20 * 6 / 10 = 12 of two purses of 6666
        due("four tenths", x.discount(0, 1), 4);
        due("one tenth", of("project a 10;budget 9;").discount(4, 0), 1);
        due("nine tenths", of("project a 10;budget 1;").discount(4, 0), 9);
        due("the first gives it 9", of("project a 2;project b 1;budget 2;votes 1;votes 1 b 1;law score;").push(4, 0), 1);
        SharedPurse y = of("project a 9;budget 3;votes 2;");
        due("never", y.push(0, 0), -1);
        due("nobody pays", y.discount(0, 0), -1);
        // 9 * 4 / 10 = 3
        due("six tenths", y.discount(4, 0), 6);
        due("1 at least", of("project a 3;budget 1;votes 1;").discount(4, 0), 4);
        due("with nothing", of("project a 3;votes 1;").discount(4, 0), -1);
        // by numbers: voter 1 and 2 are the first with 0
        SharedPurse z = of("project a 3;project b 3;budget 3;votes 1 a 1;votes 1 b 1;votes 1;");
        due("a of three", z.push(0, 0), 2);
        due("not chosen", z.outcome(0, 0), 0);
        due("a 9 counts as its worth", of("project a 1;project b 1;budget 1;votes 3 a 2;votes 1 b 1;law score;")
                .push(4, 1), 1);
    }

    private static void acts() { // promises 24, 25, 26, 28
        SharedPurse x = of(PARK);
        due("budget", x.budget(60), 30);
        due("outcome", x.outcome(0, 0), 3);
        due("cost", x.cost(1, 9999), 20);
        due("costs", x.count(3), 10009);
        due("outcome", x.outcome(0, 0), 1);
        due("score", x.score(2, 1, 9), 0);
        due("score", x.vote(2, 1, false), 9);
        due("liked", x.project(1, 1), 3);
        due("acts", x.count(4), 3);
        due("undo", x.undo(), 2);
        due("score again", x.vote(2, 1, false), 0);
        due("undo", x.undo(), 1);
        due("cost again", x.project(1, 0), 20);
        due("undo", x.undo(), 0);
        due("budget again", x.count(2), 30);
        due("undo", x.undo(), -1);
        due("where nothing changes", x.budget(30), 30);
        due("an act too", x.count(4), 1);
        due("undo", x.undo(), 0);
        for (int k = 0; k < 25; k++) {
            due("budget", x.budget(k), k == 0 ? 30 : k - 1);
        }
        due("the latest 20", x.count(4), 20);
        for (int k = 19; k >= 0; k--) {
            due("undo", x.undo(), k);
        }
        due("undo", x.undo(), -1);
        due("what it was ahead of these", x.count(2), 4);
        illegal("a wrong one", () -> x.budget(-1));
        due("is no act", x.count(4), 0);
        due("bounds", x.budget(99999), 4);
        due("bounds", x.budget(0), 99999);
        due("bounds", x.cost(0, 1), 10);
        due("bounds", x.score(0, 0, 0), 1);
    }

    private static void going() { // promise 27
        SharedPurse x = of("project a 1;project bc 2;project d 3;budget 3;votes 1 a 1 bc 2 d 3;votes 2 d 4;law score;");
        due("go", x.go(false, 1), 2);
        due("its name", x.project(1, 3), 4);
        due("behind it", x.project(1, 4), 0);
        due("its cost", x.project(1, 0), 3);
        due("its scores", x.vote(0, 1, false), 3);
        due("its scores", x.vote(2, 1, false), 4);
        noneSuch("gone", () -> x.project(2, 0));
        due("go", x.go(true, 0), 2);
        due("liked", x.project(1, 1), 2);
        due("all", x.project(1, 2), 8);
        noneSuch("gone", () -> x.vote(2, 0, false));
        due("go", x.go(true, 1), 1);
        due("go", x.go(true, 0), 0);
        due("undo", x.undo(), 3);
        due("undo", x.undo(), 2);
        due("undo", x.undo(), 1);
        due("voters", x.count(1), 3);
        due("undo", x.undo(), 0);
        due("projects", x.count(0), 3);
        due("name", x.project(1, 4), 3);
        due("score", x.vote(0, 1, false), 2);
        due("go", x.go(false, 2), 2);
        due("go", x.go(false, 0), 1);
        due("go", x.go(false, 0), 0);
        noneSuch("none left", () -> x.go(false, 0));
    }

    private static void images() { // promises 29, 30
        SharedPurse x = of("project a 1;votes 1 a 5;law score;");
        x.budget(5);
        x.image();
        due("acts stay", x.count(4), 1);
        x.budget(6);
        read(x, "project");
        read(x, "project b 2;");
        due("another", x.count(6), 0);
        yes("back", x.back());
        due("no acts", x.count(4), 0);
        due("budget", x.count(2), 5);
        due("law", x.vote(0, 0, true), 5);
        due("name", x.project(0, 3), 1);
        x.go(true, 0);
        yes("back again", x.back());
        due("voters", x.count(1), 1);
        x.cost(0, 7);
        x.image();
        x.undo();
        yes("instead of what was", x.back());
        due("cost", x.project(0, 0), 7);
        SharedPurse y = new SharedPurse();
        y.image();
        read(y, PARK);
        feed(y, "abc");
        yes("back to nothing", y.back());
        due("nothing", y.count(0), 0);
        due("the tape stays", y.count(5), 20);
        read(y, ";");
        y.back();
        due("the fault stays", y.fault(), 0);
    }

    private static void wrongCalls() {
        SharedPurse x = of(PARK);
        int[] noWhat = {-1, 7, LOW, HIGH};
        for (int what : noWhat) {
            noneSuch("count", () -> x.count(what));
            noneSuch("outcome", () -> x.outcome(0, what));
            noneSuch("step", () -> x.step(0, what));
            noneSuch("group", () -> x.group(1, what));
            noneSuch("groups", () -> x.groups(0, what));
            noneSuch("ride", () -> x.ride(0, 0, what));
        }
        noneSuch("project", () -> x.project(0, -1));
        noneSuch("project", () -> x.project(0, 9));
        noneSuch("step", () -> x.step(0, 3));
        noneSuch("group", () -> x.group(1, 4));
        noneSuch("groups", () -> x.groups(0, 5));
        noneSuch("ride", () -> x.ride(0, 0, 2));
        int[] noRule = {-1, 9, LOW, HIGH};
        for (int rule : noRule) {
            noneSuch("outcome", () -> x.outcome(rule, 0));
            noneSuch("chosen", () -> x.chosen(rule, 0));
            noneSuch("served", () -> x.served(rule, 0));
            noneSuch("paid", () -> x.paid(rule, 0, 0));
            noneSuch("left", () -> x.left(rule, 0));
            noneSuch("isServed", () -> x.isServed(1, rule, false) ? 1 : 0);
            noneSuch("groups", () -> x.groups(rule, 0));
            noneSuch("away", () -> x.away(rule, 0));
            noneSuch("with, ahead of its budget", () -> x.with(rule, -1));
            noneSuch("voting, ahead of its score", () -> x.voting(rule, 0, 0, 10));
            noneSuch("ride", () -> x.ride(rule, 0, 0));
            noneSuch("push", () -> x.push(rule, 0));
            noneSuch("discount", () -> x.discount(rule, 0));
        }
        noneSuch("paid by rule 4", () -> x.paid(4, 0, 0));
        noneSuch("left by rule 4", () -> x.left(4, 0));
        wrongIndexes(x);
        wrongValues(x);
        due("no act of these", x.count(4), 0);
    }

    private static void wrongIndexes(SharedPurse x) {
        int[] noVoter = {-1, 3, LOW, HIGH};
        for (int v : noVoter) {
            noneSuch("vote", () -> x.vote(v, 0, false));
            noneSuch("served", () -> x.served(0, v));
            noneSuch("paid", () -> x.paid(0, v, -1));
            noneSuch("away", () -> x.away(0, v));
            noneSuch("voting, ahead of its score", () -> x.voting(0, v, 0, -1));
            noneSuch("ride", () -> x.ride(0, v, 0));
            noneSuch("score, ahead of v", () -> x.score(v, 0, 10));
            noneSuch("go", () -> x.go(true, v));
        }
        noneSuch("left", () -> x.left(0, 3));
        noneSuch("left", () -> x.left(0, -2));
        int[] noProject = {-2, 2, LOW, HIGH};
        for (int p : noProject) {
            noneSuch("project", () -> x.project(p, 0));
            noneSuch("vote", () -> x.vote(0, p, true));
            noneSuch("paid", () -> x.paid(0, 0, p));
            noneSuch("price", () -> x.price(p, 0));
            noneSuch("voting, ahead of its score", () -> x.voting(0, 0, p, 10));
            noneSuch("push", () -> x.push(0, p));
            noneSuch("discount", () -> x.discount(0, p));
            noneSuch("cost, ahead of v", () -> x.cost(p, 0));
            noneSuch("score, ahead of v", () -> x.score(0, p, -1));
            noneSuch("go", () -> x.go(false, p));
        }
        noneSuch("price", () -> x.price(-1, 0));
        int[] noK = {-1, 2, LOW, HIGH};
        for (int k : noK) {
            noneSuch("chosen", () -> x.chosen(0, k));
            noneSuch("step", () -> x.step(k, 0));
            noneSuch("price", () -> x.price(0, k));
        }
        noneSuch("step", () -> x.step(1, 0));
        noneSuch("chosen", () -> x.chosen(0, 1));
        int[] noGroup = {0, -1, 4, LOW, HIGH};
        for (int set : noGroup) {
            noneSuch("group", () -> x.group(set, 0));
            noneSuch("isServed", () -> x.isServed(set, 0, true) ? 1 : 0);
        }
        noneSuch("group of nothing", () -> new SharedPurse().group(1, 0));
    }

    private static void wrongValues(SharedPurse x) {
        int[] noBudget = {-1, 100000, LOW, HIGH};
        for (int b : noBudget) {
            illegal("with", () -> x.with(0, b));
            illegal("budget", () -> x.budget(b));
        }
        int[] noScore = {-1, 10, LOW, HIGH};
        for (int s : noScore) {
            illegal("voting", () -> x.voting(0, 0, 0, s));
            illegal("score", () -> x.score(0, 0, s));
        }
        int[] noCost = {0, -1, 10000, LOW, HIGH};
        for (int c : noCost) {
            illegal("cost", () -> x.cost(0, c));
        }
    }
}
