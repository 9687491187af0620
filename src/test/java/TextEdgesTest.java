/** The document's sentences on texts and faults that name a boundary, one by one; reckoned by hand. */
public final class TextEdgesTest extends Checks {
    public static void main(String[] args) {
        greatestElection();
        texts();
        everyByte();
        numbers();
        words();
        blanks();
        lines();
        budgets();
        projectLines();
        votesLines();
        names();
        laws();
        longLaws();
        intsThatWrap();
        divisions();
        worths();
        faultsOfPlace();
        faultsOfNumbers();
        faultsOfNames();
        faultsOfTooMany();
        faultOfSecondLaw();
        firstTokenFirst();
        finish("all edges of the text hold");
    }

    private static String blanks(int n) {
        return " ".repeat(n);
    }

    /** Blanks ahead of a text, so that it is of a length. */
    private static String filled(String text, int length) {
        return blanks(length - text.length()) + text;
    }

    private static void greatestElection() {
        says("PROJECTS 0 to at most 11, each with a NAME and a COST (1 to 9999)");
        SharedPurse x = of(projects(12, 9999) + "budget 99999;votes 9 l9;votes 9 a9;votes 6;");
        due("projects", x.count(0), 12);
        due("cost of the first", x.project(0, 0), 9999);
        due("cost of the last", x.project(11, 0), 9999);
        due("name of the last", x.project(11, 3), 12);
        noneSuch("a 13th", () -> x.project(12, 0));
        due("all costs", x.count(3), 119988);
        says("VOTERS 0 to at most 23, each with a SCORE (0 to 9) for each PROJECT");
        due("voters", x.count(1), 24);
        due("of the last project", x.vote(8, 11, false), 9);
        due("of the first one", x.vote(17, 0, false), 9);
        due("of the last voter", x.vote(23, 11, false), 0);
        noneSuch("a 25th", () -> x.vote(24, 0, false));
        says("a BUDGET (0 to 99999; 0 at first)");
        due("the greatest", x.count(2), 99999);
        due("at first", new SharedPurse().count(2), 0);
        due("of a text without", of("project a 1;").count(2), 0);
        says("LIKED: how many VOTERS have a SCORE above 0 for a PROJECT");
        due("nobody", of("project a 1;votes 9;").project(0, 1), 0);
        due("0 isn't above", of("project a 1;votes 9 a 0;").project(0, 1), 0);
        due("1 is", of("project a 1;votes 9 a 0;votes 1 a 1;").project(0, 1), 1);
        due("all", of("project a 1;" + all24("a 1")).project(0, 1), 24);
    }

    private static void texts() {
        says("A TEXT of at most 500 bytes tells an ELECTION");
        good(filled("project a 9;", 500), 1);
        good("project a 9;" + blanks(488), 1);
        good("", 0);
        due("to the last byte", of("budget" + "0".repeat(492) + "7;").count(2), 7);
        fault("budget 1" + blanks(492), 1, 500);
        fault("budget " + "1".repeat(493), 2, 7);
        fault(filled("budget 1", 500), 1, 500);
        fault(filled("project", 500), 1, 500);
        fault(filled("law", 500), 1, 500);
        fault("a".repeat(500), 1, 0);
        fault(";".repeat(500), 1, 0);
        says("The tape's first n bytes are an ELECTION");
        SharedPurse x = new SharedPurse();
        feed(x, "budget 12; budget 345;");
        due("8 of 'budget 12;'", x.election(8), -11);
        due("its length", x.fault(), 8);
        feed(x, "budget 12; budget 345;");
        due("the first alone", x.election(10), 0);
        due("12", x.count(2), 12);
        feed(x, "budget 7;law 1;");
        due("no more than told of", x.election(9), 0);
        due("7", x.count(2), 7);
        due("what lay behind is no text", x.count(6), 0);
        feed(x, "law 5;");
        due("nor what lay there ahead of this", x.election(3), -11);
        due("its length", x.fault(), 3);
        feed(x, "projecta");
        due("a word ends with the text", x.election(7), -11);
        due("its length", x.fault(), 7);
    }

    private static boolean isBlank(int b) {
        return b == 32 || b == 10;
    }

    private static boolean isLetter(int b) {
        return b >= 97 && b <= 122;
    }

    private static boolean isFigure(int b) {
        return b >= 48 && b <= 57;
    }

    private static void everyByte() {
        says("any other byte but blanks (32, 10) is one by itself");
        for (int b = 0; b < 256; b++) {
            char c = (char) b;
            if (isBlank(b)) {
                good(c + "budget 1;" + c, 0);
                good("budget" + c + "1" + c + ";", 0);
                fault("budget 1" + c + "1;", 1, 9);
                fault("bud" + c + "get 1;", 1, 0);
                fault("law 1" + c + "1;", 1, 6);
                continue;
            }
            fault(c + "budget 1;", 1, 0);
            byteInside(b, c);
            byteInLaw(b, c);
        }
    }

    private static void byteInside(int b, char c) {
        if (isFigure(b)) {
            due("a figure " + c, of("budget" + c + "1;").count(2), (b - 48) * 10 + 1);
            due("a figure " + c, of("budget 1" + c + ";").count(2), 10 + b - 48);
        } else {
            fault("budget" + c + "1;", 1, isLetter(b) ? 0 : 6);
            fault("budget 1" + c + ";", 1, c == ';' ? 9 : 8);
        }
        if (isLetter(b)) {
            due("a letter " + c, of("project " + c + " 1;").project(0, 3), b - 96);
            good("project a" + c + " 1;", 1);
        } else {
            fault("project " + c + " 1;", 1, 8);
        }
    }

    private static void byteInLaw(int b, char c) {
        if (isFigure(b) || c == '+' || c == '-' || c == '*' || c == '/') {
            good("law 1" + c + "1;", 0);
        } else {
            fault("law 1" + c + "1;", 1, c == ';' ? 6 : 5);
        }
        if (isFigure(b)) {
            good("law " + c + ";", 0);
        } else {
            fault("law " + c + ";", 1, c == '(' ? 5 : 4);
        }
    }

    private static void numbers() {
        says("a NUMBER a row of figures (it counts as what it is, 007 as 7)");
        due("007", of("budget 007;").count(2), 7);
        due("000", of("budget 000;").count(2), 0);
        due("0000099999", of("budget 0000099999;").count(2), 99999);
        due("cost", of("project a 0000009999;").project(0, 0), 9999);
        due("votes", of("votes 0009;").count(1), 9);
        due("score", of("project a 1;votes 1 a 0009;").vote(0, 0, false), 9);
        due("law", worthBy("00009999"), 9999);
        due("in two figures", of("budget 10;").count(2), 10);
        // each would be in its bounds, if ints or longs wrapped: 2 to the 32 and 1, 2 to the 64 and 1
        String[] far = {"4294967297", "18446744073709551617", "1".repeat(200), "2147483648", "1000001", "9999999",
            "340282366920938463463374607431768211457"};
        for (String n : far) {
            fault("budget " + n + ";", 2, 7);
            fault("project a " + n + ";", 2, 10);
            fault("votes " + n + ";", 2, 6);
            fault("project a 1;votes 1 a " + n + ";", 2, 22);
            fault("law " + n + ";", 2, 4);
        }
    }

    private static void words() {
        says("In quotes is what stands there");
        String[] almost = {"cudget 1;", "budgea 1;", "rroject a 1;", "projecs a 1;", "wotes 1;", "votet 1;", "maw 1;",
            "lax 1;", "budge 1;", "budgett 1;", "la 1;", "laww 1;"};
        for (String line : almost) {
            fault(line, 1, 0);
        }
        String[] parts = {"tcore", "scorf", "dost", "cosu", "miked", "likee", "woters", "votert", "votes", "scor",
            "scores", "a"};
        for (String part : parts) {
            fault("law " + part + ";", 1, 4);
        }
    }

    private static void blanks() {
        says("blanks stand where one likes, not in WORDS, NUMBERS");
        good("\n project \n a\n\n1 ; votes 1\na  1 \n; law ( 1 + score ) ; budget 1 ;\n", 1);
        good("project a1;votes1a1;law(1+score);budget1;", 1);
        fault("pro ject a 1;", 1, 0);
        fault("project a 1 0;", 1, 12);
        fault("projecta 1;", 1, 0);
        fault("law sco re;", 1, 4);
        fault("project a 1;vo\ntes 1;", 1, 12);
        good(blanks(500), 0);
        good("\n".repeat(500), 0);
    }

    private static void lines() {
        says("ELECTION: (LINE ';')*");
        SharedPurse x = of("");
        for (int what = 0; what <= 6; what++) {
            due("none at all", x.count(what), 0);
        }
        fault(";", 1, 0);
        fault("budget 1;;", 1, 9);
        fault("project a 1", 1, 11);
        fault("votes 1", 1, 7);
        fault("law 1", 1, 5);
        fault("budget 1 project a 1;", 1, 9);
        fault("project a 1 votes 1;", 1, 12);
        fault("votes 1 budget 1;", 1, 8);
        fault("law 1 budget 1;", 1, 6);
        // 24 lines of 7 bytes, 41 of 8
        due("many", of("votes1;".repeat(24) + "budget9;".repeat(41)).count(1), 24);
    }

    private static void budgets() {
        says("'budget' NUMBER (the last one counts)");
        due("the last", of("budget 99999;budget 3;").count(2), 3);
        due("the last is 0", of("budget 99999;budget 0;").count(2), 0);
        due("the least", of("budget 0;").count(2), 0);
        due("the greatest", of("budget 99999;").count(2), 99999);
        fault("budget 100000;", 2, 7);
        fault("budget 5;budget 100000;", 2, 16);
    }

    private static void projectLines() {
        says("'project' NAME NUMBER (COST)");
        due("the least", of("project a 1;").project(0, 0), 1);
        due("the greatest", of("project a 9999;").project(0, 0), 9999);
        fault("project a 0;", 2, 10);
        fault("project a 000;", 2, 10);
        fault("project a 10000;", 2, 10);
        says("PROJECTS, VOTERS are numbered by their LINES");
        SharedPurse x = of("project z 3;votes 1 z 1;project a 2;votes 2 a 2 z 3;");
        due("z", x.project(0, 3), 26);
        due("a", x.project(1, 0), 2);
        due("voter 0", x.vote(0, 0, false), 1);
        due("voter 1", x.vote(1, 0, false), 3);
        due("voter 2", x.vote(2, 1, false), 2);
    }

    private static void votesLines() {
        says("'votes' NUMBER (NAME NUMBER)* (so many VOTERS, 1 to 9, each with these SCORES 0 to 9");
        due("1", of("votes 1;").count(1), 1);
        due("9", of("votes 9;").count(1), 9);
        fault("votes 0;", 2, 6);
        fault("votes 10;", 2, 6);
        SharedPurse x = of("project a 1;votes 9 a 9;votes 1 a 0;");
        due("each", x.vote(0, 0, false), 9);
        due("each", x.vote(8, 0, false), 9);
        due("0", x.vote(9, 0, false), 0);
        fault("project a 1;votes 1 a 10;", 2, 22);
        due("none", of("votes 3;").count(0), 0);
        SharedPurse z = of(projects(12) + "votes 9 l1k1j1i1h1g1f1e1d1c1b1a2;");
        due("all twelve", z.vote(8, 0, false), 2);
        due("all twelve", z.vote(8, 11, false), 1);
        fault(projects(12) + "votes 9 l1k1j1i1h1g1f1e1d1c1b1a2a", 3, 176);
        fault(projects(12) + "votes 9 l1k1j1i1h1g1f1e1d1c1b1a2 9", 1, 177);
        says("of all others 0; PROJECTS that come behind too");
        SharedPurse y = of("project a 1;project b 1;votes 1 b 5;project c 1;");
        due("not told", y.vote(0, 0, false), 0);
        due("told", y.vote(0, 1, false), 5);
        due("behind", y.vote(0, 2, false), 0);
        read(y, "project a 1;project b 1;project c 1;votes 9;");
        due("not what another text told", y.vote(0, 1, false), 0);
        says("the NUMBER of votes by which there would be more than 24 VOTERS");
        due("24", of("votes 9;votes 9;votes 6;").count(1), 24);
        due("24 by ones", of("votes 1;".repeat(24)).count(1), 24);
        fault("votes 1;".repeat(24) + "votes 1;", 4, 198);
        fault("votes 9;votes 9;votes 7;", 4, 22);
        fault("votes 9;votes 9;votes 9;", 4, 22);
        fault("votes 9;votes 9;votes 5;votes 2;", 4, 30);
        good("votes 9;votes 9;votes 5;votes 1;", 0);
    }

    private static void names() {
        says("NAME: a WORD of 1 to 6 letters but budget, project, votes, law");
        due("1", of("project q 1;").project(0, 3), 17);
        due("1, nothing behind it", of("project q 1;").project(0, 4), 0);
        SharedPurse x = of("project abcxyz 1;votes 1 abcxyz 4;");
        due("6, the first", x.project(0, 3), 1);
        due("6, the last", x.project(0, 8), 26);
        due("asked", x.vote(0, 0, false), 4);
        fault("project abcdefg 1;", 1, 8);
        fault("project a 1;votes 1 abcdefg 1;", 1, 20);
        fault("project abcdef 1;votes 1 abcdefa 1;", 1, 25);
        String[] no = {"budget", "project", "votes", "law"};
        for (String n : no) {
            fault("project " + n + " 1;", 1, 8);
            fault("project a 1;votes 1 " + n + " 1;", 1, 20);
        }
        String[] well = {"budge", "projec", "vote", "la", "laws", "voters", "score", "cost", "liked", "budges", "votez"};
        for (String n : well) {
            good("project " + n + " 1;votes 1 " + n + " 1;", 1);
        }
        says("told once (by project), ahead of where it is asked");
        good("project a 1;project aa 1;project b 1;project ab 1;project ba 1;", 5);
        due("of several alike in part", of("project a 1;project aa 1;votes 1 aa 7;").vote(0, 1, false), 7);
        due("not the other", of("project a 1;project aa 1;votes 1 aa 7;").vote(0, 0, false), 0);
        fault("votes 1 a 1;project a 1;", 3, 8);
        good("project a 1;votes 1 a 1;votes 1 a 1;", 1);
    }

    private static int worthBy(String law) {
        SharedPurse x = of("project a 50;votes 3 a 7;votes 2;law " + law + ";");
        return x.vote(0, 0, true);
    }

    private static void laws() {
        says("PART: NUMBER (0 to 9999) | 'score' | 'cost' | 'liked' | 'voters' | '(' SUM ')'");
        due("0", worthBy("0"), 0);
        due("9999", worthBy("9999"), 9999);
        fault("law 10000;", 2, 4);
        fault("law 1+10000;", 2, 6);
        fault("law (((10000", 2, 7);
        due("the greatest score", of("project a 1;votes 1 a 9;law score;").vote(0, 0, true), 9);
        due("the greatest cost", of("project a 9999;votes 1 a 9;law cost;").vote(0, 0, true), 9999);
        due("the most liked", of("project a 1;" + all24("a 1") + "law liked;").vote(23, 0, true), 24);
        due("the most voters", of("project a 1;votes 1 a 1;votes 9;votes 9;votes 5;law voters;").vote(0, 0, true), 24);
        due("one voter", of("project a 1;votes 1 a 1;law voters+liked;").vote(0, 0, true), 2);
        says("the 7th ( open at once");
        due("six", worthBy("((((((7))))))"), 7);
        due("six, again and again", worthBy("((((((7))))))+((((((7))))))*((((((2))))))"), 21);
        due("six by and by", worthBy("1+(2+(3+(4+(5+(6+(7+0))))))"), 28);
        due("more than six, not at once", worthBy("(1)+(1)+(1)+(1)+(1)+(1)+(1)+(1)"), 8);
        due("six, one closed, one more", worthBy("(((((1+(1)+(1)+(1))))))"), 4);
        fault("law (((((((7)))))));", 4, 10);
        fault("law ((((((7+(", 4, 12);
        fault("law ((((((1))))))+(((((((", 4, 24);
        fault("law ((((((7(", 1, 11);
        fault("law ((((((7));", 1, 13);
        fault("law ((((((7", 1, 11);
        fault("law ((((((7)))))));", 1, 17);
        fault("law ((((((", 1, 10);
        says("From the left");
        due("minus", worthBy("100-50-25-10"), 15);
        due("by", worthBy("1000/10/10/5"), 2);
        due("by, times", worthBy("7/2*2"), 6);
        due("times ahead of plus", worthBy("1+2*3"), 7);
        due("by ahead of minus", worthBy("9-8/4"), 7);
        due("minus, plus", worthBy("9-8+4"), 5);
        due("brackets first", worthBy("9-(8+1)+5"), 5);
    }

    private static void longLaws() {
        says("A TEXT of at most 500 bytes");
        String head = "project a 1;votes 1 a 1;law ";
        due("236 ones", of(head + "1+".repeat(235) + "1;").vote(0, 0, true), 236);
        due("236 times 1", of(head + "1*".repeat(235) + "1;").vote(0, 0, true), 1);
        due("1 + 1 * 1", of(head + "1+1*1-".repeat(78) + "1;").vote(0, 0, true), 1);
        due("brackets", of(head + "((((((1))))))+".repeat(33) + "1;").vote(0, 0, true), 34);
        // in each of the brackets two wait: 7, 15, 31, .. 511
        due("deep", of(head + "1+2*(1+2*(1+2*(1+2*(1+2*(1+2*(1+2*3))))));").vote(0, 0, true), 511);
        due("deep, from the left", worthBy("9-8/(9-8/(9-8/(9-8/(9-8/(9-8/(9-8/4))))))"), 8);
    }

    /** The greatest int: 2099580021 + 47895210 + 8416. */
    private static final String MAX = "(9999*9999*21+9999*4790+8416)";

    private static void intsThatWrap() {
        says("ints that wrap");
        due("the greatest", worthBy(MAX + "/9999/100"), 2147);
        due("kept to 9999", worthBy(MAX), 9999);
        due("1 more is the least", worthBy("(" + MAX + "+1)/9999/100+5000"), 2853);
        due("kept to 0", worthBy(MAX + "+1"), 0);
        due("the least", worthBy("0-" + MAX + "-1"), 0);
        due("1 less is the greatest", worthBy("0-" + MAX + "-2"), 9999);
        due("and that less it", worthBy("0-" + MAX + "-2-" + MAX + "+5"), 5);
        due("times 2 is -2", worthBy(MAX + "*2+3"), 1);
        due("times itself is 1", worthBy(MAX + "*" + MAX), 1);
        due("the least times itself is 0", worthBy("(" + MAX + "+1)*(" + MAX + "+1)+7"), 7);
        due("0 less the least is the least", worthBy("(0-(" + MAX + "+1))/9999/100+5000"), 2853);
        due("the least by -1 is the least", worthBy("(" + MAX + "+1)/(0-1)/9999/100+5000"), 2853);
        due("the least times -1 is the least", worthBy("(" + MAX + "+1)*(0-1)/9999/100+5000"), 2853);
        // as Java's own ints have it
        due("three times 9999", worthBy("9999*9999*9999/9999/100+5000"), 9999 * 9999 * 9999 / 9999 / 100 + 5000);
    }

    private static void divisions() {
        says("/ cut towards 0");
        due("7 by 2", worthBy("7/2"), 3);
        due("-7 by 2", worthBy("10+(0-7)/2"), 7);
        due("7 by -2", worthBy("10+7/(0-2)"), 7);
        due("-7 by -2", worthBy("(0-7)/(0-2)"), 3);
        due("1 by 2", worthBy("5+1/2"), 5);
        due("-1 by 2", worthBy("5+(0-1)/2"), 5);
        says("by 0 gives 0");
        due("5 by 0", worthBy("3+5/0"), 3);
        due("0 by 0", worthBy("3+0/0"), 3);
        due("-5 by 0", worthBy("3+(0-5)/0"), 3);
        due("the greatest by 0", worthBy("3+" + MAX + "/0"), 3);
        due("the least by 0", worthBy("3+(" + MAX + "+1)/0"), 3);
        due("by what is 0", worthBy("3+5/(score-7)"), 3);
        due("by what is cut to 0", worthBy("3+5/(1/2)"), 3);
        due("and on", worthBy("3+5/0*9+1"), 4);
        due("and on by it", worthBy("3+5/0/0"), 3);
    }

    private static void worths() {
        says("WORTH of a PROJECT to a VOTER: 0 of SCORE 0; else what THE LAW makes, kept to 0 to 9999");
        due("of score 0", of("project a 1;votes 1 a 0;law 5;").vote(0, 0, true), 0);
        due("of no score", of("project a 1;votes 1;law 5;").vote(0, 0, true), 0);
        due("of score 1", of("project a 1;votes 1 a 1;law 5;").vote(0, 0, true), 5);
        due("-1", worthBy("0-1"), 0);
        due("0", worthBy("0"), 0);
        due("1", worthBy("1"), 1);
        due("9998", worthBy("9998"), 9998);
        due("9999", worthBy("9998+1"), 9999);
        due("10000", worthBy("9999+1"), 9999);
        due("only at the end", worthBy("9999*9-9999*8-1"), 9998);
        due("only at the end", worthBy("3-10+8"), 1);
        says("(without a LAW: 1)");
        due("of score 0", of("project a 1;votes 1 a 0;").vote(0, 0, true), 0);
        due("of score 1", of("project a 1;votes 1 a 1;").vote(0, 0, true), 1);
        due("of score 9", of("project a 1;votes 1 a 9;").vote(0, 0, true), 1);
        SharedPurse x = of("law 7;project a 1;votes 1 a 9;");
        due("with one", x.vote(0, 0, true), 7);
        read(x, "project a 1;votes 1 a 9;");
        due("a text without it has none", x.vote(0, 0, true), 1);
        says("WORTH of a set of PROJECTS to a VOTER: those of all of it together");
        SharedPurse y = of(projects(12) + "budget 12;law 9999;" + all24("a1b1c1d1e1f1g1h1i1j1k1l1"));
        due("of the empty one", of("project a 1;votes 1 a 1;").served(0, 0), 0);
        due("of all", y.served(4, 23), 119988);
        due("to all", y.outcome(4, 3), 2879712);
        due("all of one", y.project(11, 2), 239976);
    }

    private static void faultsOfPlace() {
        says("1 it can't stand there");
        fault("7", 1, 0);
        fault("project", 1, 7);
        fault("a", 1, 0);
        fault("score;", 1, 0);
        fault("budget a;", 1, 7);
        fault("budget budget;", 1, 7);
        fault("project 7 7;", 1, 8);
        fault("project a b;", 1, 10);
        fault("project a 1 2;", 1, 12);
        fault("votes ;", 1, 6);
        fault("votes a 1;", 1, 6);
        fault("project a 1;votes 1 a;", 1, 21);
        fault("project a 1;votes 1 a a;", 1, 22);
        fault("project a 1;votes 1 a 1 1;", 1, 24);
        fault("project a 1;votes 1 a 1,", 1, 23);
        fault("law a;", 1, 4);
        fault("law law;", 1, 4);
        fault("law +1;", 1, 4);
        fault("law 1+;", 1, 6);
        fault("law 1+-1;", 1, 6);
        fault("law 1 score;", 1, 6);
        fault("law );", 1, 4);
        fault("law (1));", 1, 7);
        fault("law (1;", 1, 6);
        fault("law (;", 1, 5);
        says("the end, where the text can't end: its length");
        String[] cut = {"budget", "budget 1", "project", "project a", "project a 1", "votes", "votes 1", "law", "law 1",
            "law 1+", "law (", "law (1", "law (1)"};
        for (String t : cut) {
            fault(t, 1, t.length());
            fault(t + " \n ", 1, t.length() + 3);
        }
        fault("project a 1;votes 1 a", 1, 21);
        fault("project a 1;votes 1 a 1", 1, 23);
        says("a WORD of 7 letters or more where a NAME must stand, too");
        fault("project aaaaaaa 1;", 1, 8);
        fault("project aaaaaaaa 1;", 1, 8);
        fault("project aaaaaa 1;votes 1 aaaaaaa 1;", 1, 25);
        good("project aaaaaa 1;", 1);
    }

    private static void faultsOfNumbers() {
        says("2 a NUMBER that isn't as told");
        fault("budget 100000;", 2, 7);
        fault("project a 0;", 2, 10);
        fault("project a 10000;", 2, 10);
        fault("votes 0;", 2, 6);
        fault("votes 10;", 2, 6);
        fault("project a 1;votes 1 a 10;", 2, 22);
        fault("law 10000;", 2, 4);
        says("its place the TOKEN's first byte");
        fault("budget  \n 00100000;", 2, 10);
        fault("budget 00100000", 2, 7);
    }

    private static void faultsOfNames() {
        says("3 a NAME that is told already (of project)");
        fault("project a 1;project a 1;", 3, 20);
        fault("project abcdef 1;project abcdef 1;", 3, 25);
        fault(projects(11) + "project k 1;", 3, 140);
        fault("project a 1;project b 1;votes 1 a 1;project a 1;", 3, 44);
        says("that isn't told (of votes)");
        fault("votes 1 a 1;", 3, 8);
        fault("project ab 1;votes 1 a 1;", 3, 21);
        fault("project a 1;votes 1 ab 1;", 3, 20);
        fault("project a 1;votes 1 a 1 b 1;", 3, 24);
        fault("project a 1;votes 1 score 1;", 3, 20);
        fault(projects(12) + "votes 1 m 1;", 3, 152);
        fault(projects(12) + "votes 1 l 1 zzzzzz 1;", 3, 156);
        says("that is told already in this LINE (of votes)");
        fault("project a 1;votes 1 a 1 a 1;", 3, 24);
        fault("project a 1;votes 1 a 0 a 1;", 3, 24);
        fault("project a 1;project b 1;votes 1 a 1 b 1 a 1;", 3, 40);
        fault(projects(12) + "votes 1 l 1 a 1 l 1;", 3, 160);
        good("project a 1;votes 1 a 1;votes 1 a 1;", 1);
    }

    private static void faultsOfTooMany() {
        says("4 one too many: the word of a 13th PROJECT");
        good(projects(12), 12);
        fault(projects(13), 4, 144);
        fault(projects(12) + " project", 4, 145);
        fault(projects(12) + "project a 1;", 4, 144);
        fault(projects(12) + "project 1;", 4, 144);
        fault(projects(12) + "projects", 1, 144);
        says("4 one too many: the NUMBER of votes");
        fault(all24("") + "votes 1;", 4, 33);
        fault(all24("") + "votes;", 1, 32);
        fault(all24("") + "votes 0;", 2, 33);
        fault(all24("") + "votes 10;", 2, 33);
    }

    private static void faultOfSecondLaw() {
        says("5 the word of a second law");
        fault("law 1;law 1;", 5, 6);
        fault("law 1;law", 5, 6);
        fault("law 0;\nbudget 1; law;", 5, 17);
        fault("law 1;laws 1;", 1, 6);
        says("the word of a second law, of one text");
        SharedPurse x = of("law 1;");
        due("another text has its own", read(x, "law 2;"), 0);
        due("its fault", x.fault(), NONE);
        due("behind a fault in it", read(x, "law 2"), -11);
        due("and again", read(x, "law 3;"), 0);
        String[] halves = {"law ((((((1+2*(", "law 9-(1", "law 1+2*", "law (((1)+2)*3", "law 7/(2-?"};
        for (String half : halves) {
            SharedPurse y = of("project a 1;");
            read(y, half);
            due("nothing of " + half, read(y, "project a 1;votes 1 a 3;law ((((((1+score*2))))));"), 1);
            due("its own law alone", y.vote(0, 0, true), 7);
        }
    }

    private static void firstTokenFirst() {
        says("at the first TOKEN at which one of these is so it is that (the first one of this list)");
        fault("project a 0;law 1;law 1;", 2, 10);
        fault("law 1;law 1;project a 0;", 5, 6);
        fault("project a 1;project a 0;", 3, 20);
        fault("votes 1 a 10;", 3, 8);
        fault("votes 10 a 10;", 2, 6);
        fault("votes 9;votes 9;votes 7 a 1;", 4, 22);
        fault("project abcdefg 0;", 1, 8);
        fault("law 1;budget 100000;law 1;", 2, 13);
        // a seventh ( that can't stand there, a number of votes that isn't as told by which there were too many
        fault("law ((((((1(", 1, 11);
        fault("votes 9;votes 9;votes 99;", 2, 22);
        fault("budget 1 100000;", 1, 9);
    }
}
