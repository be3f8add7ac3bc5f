/** The edges that what stands ahead of the promises names, each by the document's own words. */
public final class TermsEdgesTest {
    private static final String SEVEN = "0011;1122;2233;3344;4455;5566;6677";
    private static final String ALL_LOUD = "0910;0920;0930;0940;0950;0960;0970";

    /** What a text is worth for 0 and the NAME of 1, which 0 does not HOLD. */
    private static void worth(Due due, String text, int worth) {
        can(due, "(" + text + "=" + worth + ")-1", 1);
        can(due, "(" + text + "=" + (worth - 1) + ")-1", 0);
    }

    /** Whether 0 CAN SAY the NAME of 1 by a rule. */
    private static void can(Due due, String rule, int can) {
        Due.is(rule + " is a rule", due.law(rule) > -10000, true);
        Due.is(rule + ": 0 can say 1", due.names.row(2) >> 1 & 1, can);
    }

    private static Due two() {
        return Due.of("2710;5420", "0-1");
    }

    private static void calledOften() {
        Due due = Due.of("0510", "");
        // 7 calls so far; with these, 511
        for (int i = 1; i <= 504; i++) {
            Due.is("move " + i, due.names.moves(0, i % 10), i % 10 == 0 ? 9 : 1);
        }
        Due.is("the 512th", due.names.undo(), 11);
    }

    private static void sevenAtMost() {
        Due due = new Due();
        Due.is("none at first", due.names.count(0), 0);
        for (int i = 1; i <= 7; i++) {
            Due.is("one more", due.people("1111"), 1);
            Due.is("PEOPLE", due.names.count(0), i);
        }
        Due.is("an eighth", due.people("1111"), -1);
        Due.is("PEOPLE", due.names.count(0), 7);
        Due.is("the seventh is 6", due.names.one(6, 0), 1);
        Due.throwsNoSuch("one(7, 0)", () -> due.names.one(7, 0));
    }

    private static void leastAndMostOfOne() {
        Due due = Due.of("0000;9999", "");
        for (int what = 0; what <= 2; what++) {
            Due.is("the least " + what, due.names.one(0, what), 0);
            Due.is("the most " + what, due.names.one(1, what), what == 2 ? 99 : 9);
        }
    }

    private static void himselfAtFirst() {
        Due due = Due.of("0910;0920", "");
        due.names.says(1, 0);
        due.names.days(0);
        due.people("0930;0940");
        int[] holders = {1, 1, 2, 3};
        for (int name = 0; name < holders.length; name++) {
            Due.is("HOLDER of " + name, due.names.name(name, 0), holders[name]);
        }
    }

    private static void ages() {
        Due due = Due.of("0910;0920", "");
        Due.is("at first", due.names.name(0, 1), 0);
        due.names.days(60);
        due.names.days(38);
        Due.is("98", due.names.name(0, 1), 98);
        due.names.days(1);
        Due.is("99", due.names.name(0, 1), 99);
        due.names.days(1);
        Due.is("99 at most", due.names.name(0, 1), 99);
        Due.is("all AGES", due.names.count(5), 198);
        due.people("0930");
        Due.is("of one who came later", due.names.name(2, 1), 0);
        due.names.says(1, 0);
        Due.is("just said", due.names.name(0, 1), 0);
        Due.is("of another one", due.names.name(1, 1), 99);
    }

    private static void thirtyFourSigns() {
        Due due = new Due();
        Due.is("signs of seven LINES", SEVEN.length(), 34);
        Due.is("35 signs", due.people(SEVEN + ";"), -35);
        Due.is("34 signs", due.people(SEVEN), 7);
    }

    private static void linesOfFourDigits() {
        Due due = new Due();
        Due.is("three digits", due.people("123"), -4);
        Due.is("five digits", due.people("12345"), -5);
        Due.is("another sign between", due.people("1234,5678"), -5);
        Due.is("two between", due.people("1234;;5678"), -6);
        Due.is("four and four", due.people("1204;5098"), 2);
        Due.is("PURSE 04", due.names.one(0, 2), 4);
        Due.is("PURSE 98", due.names.one(1, 2), 98);
    }

    private static void far() {
        Due due = Due.of("0910;9920;9930", "9");
        Due.is("of one and himself", due.names.name(0, 3), 0);
        due.names.says(1, 0);
        due.names.says(0, 1);
        due.names.says(1, 2);
        Due.is("0 off, 9", due.names.name(0, 3), 9);
        Due.is("9 off, 0", due.names.name(1, 3), 9);
        Due.is("at one PLACE", due.names.name(2, 3), 0);
        Due.is("9 off by f", due.law("f-9"), -2);
        due.row("9 off by f: 0 and 2 by 1, 1 by 0", 4, 6, 5, 2, 2);
    }

    private static void dayAndSaidAtFirst() {
        Due due = Due.of("0910;0920", "");
        Due.is("DAY", due.names.count(1), 0);
        Due.is("SAID", due.names.count(2), 0);
    }

    private static void ruleAtFirst() {
        // VOICE 3 at 0; others at 3 and 4
        Due due = new Due();
        due.people("0300;3000;4000");
        Due.is("3 off can, 4 off can't", due.names.one(0, 4), 2);
        due.rule("0-1");
        Due.is("none by -1", due.names.one(0, 4), 0);
        Due.is("none again", due.rule(""), 0);
        Due.is("v-f", due.names.one(0, 4), 2);
        String forty = "v-f+0+0+0+0+0+0+0+0+0+0+0+0+0+0+0+0+0+00";
        Due.is("signs", forty.length(), 40);
        Due.is("40 signs", due.rule(forty), 0);
        Due.is("41 signs", due.rule(forty + "0"), -41);
    }

    private static void comparisons() {
        Due due = two();
        String[] texts = {"(1<2)", "(2<2)", "(3<2)", "(2>1)", "(2>2)", "(1>2)", "(2=2)", "(2=1)", "(1+1<3)", "(3<1+1)",
            "(2*2=8-4)", "((1<2)=1)"};
        int[] worth = {1, 0, 0, 1, 0, 0, 1, 0, 1, 0, 1, 1};
        for (int i = 0; i < texts.length; i++) {
            worth(due, texts[i], worth[i]);
        }
        String signs = "<>=";
        for (int i = 0; i < 9; i++) {
            String twice = "1" + signs.charAt(i / 3) + "2" + signs.charAt(i % 3) + "3";
            Due.is(twice, due.rule(twice), -4);
            Due.is("(" + twice + ")", due.rule("(" + twice + ")"), -5);
        }
        Due.is("one in ( ) behind the other", due.rule("(1<2)<3"), 0);
    }

    private static void sums() {
        Due due = two();
        worth(due, "7-3-2", 2);
        worth(due, "7-3+2", 6);
        worth(due, "2+3*4", 14);
        worth(due, "2-8/4", 0);
    }

    private static void products() {
        Due due = two();
        String[] texts = {"8/4/2", "8/4*2", "9/2*2", "5/0", "0/0", "-5/0", "5/0*7", "5/(v-v)", "7/2", "-7/2", "7/-2", "-7/-2",
            "1/2", "-1/2", "(0-7)/2", "0-7/2"};
        int[] worth = {1, 4, 8, 0, 0, 0, 0, 0, 3, -3, -3, 3, 0, 0, -3, -3};
        for (int i = 0; i < texts.length; i++) {
            worth(due, texts[i], worth[i]);
        }
    }

    private static void signsAhead() {
        Due due = two();
        String[] texts = {"-5", "--5", "---5", "2--5", "2---5", "2*-3", "2*--3", "-v", "--v", "-(1+2)", "-(-(1))", "8/--2"};
        int[] worth = {-5, 5, -5, 7, -3, -6, 6, -7, 7, -3, 1, 4};
        for (int i = 0; i < texts.length; i++) {
            worth(due, texts[i], worth[i]);
        }
        can(due, "5--3", 1);
        can(due, "-1", 0);
        can(due, "-".repeat(38) + "1", 1);
        can(due, "-".repeat(39) + "1", 0);
        Due.is("none ahead of a thing is +", due.rule("+5"), -1);
    }

    private static void numbers() {
        Due due = two();
        worth(due, "0", 0);
        worth(due, "9", 9);
        worth(due, "10", 10);
        worth(due, "99", 99);
        worth(due, "100", 100);
        worth(due, "999", 999);
        worth(due, "007", 7);
        Due.is("1000", due.rule("1000"), -4);
        Due.is("0000", due.rule("0000"), -4);
        Due.is("v+1000", due.rule("v+1000"), -6);
        Due.is("no digit", due.rule("v+"), -3);
    }

    private static void brackets() {
        Due due = two();
        Due.is("4", due.rule("((((v))))"), 0);
        Due.is("5", due.rule("(((((v)))))"), -5);
        Due.is("4 beside 4", due.rule("((((v))))-((((f))))"), 0);
        Due.is("4, and the fourth once more", due.rule("(((v)+(f)))"), 0);
        Due.is("4, and a fifth later", due.rule("((((v)+(f))))"), 0);
        Due.is("a fifth behind four", due.rule("((((v+(f)))))"), -7);
        Due.is("empty", due.rule("()"), -2);
        Due.is("not closed", due.rule("((v)"), -5);
        Due.is("not opened", due.rule("(v))"), -4);
    }

    private static void things() {
        Due due = Due.of(ALL_LOUD, "");
        due.names.calls(0);
        Due.is("h 0", due.law("0-h"), 0);
        due.row("1 .. 6 HOLD none", 42, 42, 0, 127, 127, 127, 127, 127, 127);
        due.names.says(1, 6);
        Due.is("h 6", due.law("(h=6)-1") > -10000, true);
        Due.is("0 HOLDS six", due.names.row(2), 64);
        Due.is("o", due.law("o-1") > -10000, true);
        due.row("each but 0 his own", 6, 7 + 35, 0, 2, 4, 8, 16, 32, 64);
        Due.is("o is 1 at most", due.law("1-o"), 0);
        due.names.days(1);
        due.names.says(1, 0);
        Due.is("a", due.law("0-a") > -10000, true);
        Due.is("the NAME of 0 alone was said since", due.names.row(4), 1);
    }

    private static void dayBySeven() {
        Due due = two();
        int[] n = {0, 1, 2, 3, 4, 5, 6, 0, 1, 2, 3, 4, 5, 6, 0};
        for (int day = 0; day < n.length; day++) {
            worth(due, "n", n[day]);
            due.names.days(1);
        }
    }

    private static void asInts() {
        Due due = two();
        can(due, "0", 1);
        can(due, "-1", 0);
        can(due, "0-0", 1);
        // 256 * 256 * 128 * 256 is one above the greatest int
        String least = "256*256*128*256";
        can(due, least, 0);
        can(due, least + "-1", 1);
        can(due, "-1+" + least, 1);
        can(due, "-(" + least + ")", 0);
        can(due, least + "/-1", 0);
        can(due, "0-" + least, 0);
        can(due, least + "*2", 1);
        worth(due, least + "*2", 0);
        Due.is("who HOLDS it can't", due.names.one(1, 4), 0);
        due.rule("9");
        Due.is("not his own", due.names.one(0, 4), 2);
        due.names.says(0, 1);
        Due.is("nor what he HOLDS", due.names.one(0, 4), 0);
        Due.is("whose it is can, as another one HOLDS it", due.names.one(1, 4), 3);
    }

    /** No run of 512 calls says so much: behind these the class still keeps to it. */
    private static void saidAtMost() {
        Due due = Due.of(ALL_LOUD, "");
        for (int i = 0; i < 2000 && due.names.count(2) < 9995; i++) {
            due.names.calls(i % 7);
        }
        Due.is("nearly", due.names.count(2) >= 9995, true);
        for (int i = due.names.count(2); i < 9998; i++) {
            due.names.says(i % 2, 3);
            due.names.says((i + 1) % 2, 3);
            due.names.undo();
            Due.is("SAID", due.names.count(2), i + 1);
        }
        due.names.says(5, 3);
        Due.is("9999", due.names.count(2), 9999);
        due.names.says(6, 3);
        Due.is("9999 at most", due.names.count(2), 9999);
        due.names.calls(0);
        Due.is("and no more", due.names.count(2), 9999);
        due.names.days(1);
        Due.is("SAID more, as it grew", due.names.row(0), 0);
        due.names.undo();
        due.names.years(5, 60);
        Due.is("SAID more in years", due.names.row(0), 0);
    }

    private static void asAllIsThen() {
        // 2 HOLDS the NAME of 1, 0 that of 2; who HOLDS one can't: 1 sets 2 free
        Due due = Due.of("0910;0920;0930", "9");
        due.names.says(2, 1);
        due.names.says(0, 2);
        due.rule("0-h");
        Due.is("1, then 2", due.names.days(1), 7);
        Due.is("SAID", due.names.row(0), 2);
        // 0 HOLDS that of 1, 1 that of 2: 1 can't, as it is his turn ahead of 2, who can
        due = Due.of("0910;0920;0930", "9");
        due.names.says(0, 1);
        due.names.says(1, 2);
        due.rule("0-h");
        Due.is("2 alone", due.names.days(1), 5);
        Due.is("1 a day later", due.names.days(1), 7);
        Due.is("who HOLDS his own says nothing", due.names.days(1), 7);
        Due.is("SAID", due.names.row(0), 0);
    }

    private static void pursesOfADay() {
        Due due = Due.of("0901;0998;0900;0999", "9");
        due.names.says(1, 0);
        due.names.says(0, 2);
        due.names.says(3, 1);
        due.rule("0-1");
        // 0 to 1: 1 of 1, to 99; 1 to 3: 3 is full; 2 to 0: there is none
        due.names.days(1);
        int[] purses = {0, 99, 0, 99};
        for (int one = 0; one < purses.length; one++) {
            Due.is("PURSE of " + one, due.names.one(one, 2), purses[one]);
        }
        due.names.sheet(2, 4, 5, 94);
        // 5, 99, 99, 99: 0 to 1: 1 is full; 1 to 3: 3 is full; 2 to 0: 1 goes
        due.names.days(1);
        Due.is("PURSE of 0", due.names.one(0, 2), 6);
        Due.is("PURSE of 1", due.names.one(1, 2), 99);
        Due.is("PURSE of 2", due.names.one(2, 2), 98);
        Due.is("together", due.names.row(1), 302);
    }

    private static void agesOfADay() {
        Due due = Due.of("0910;0920", "9");
        due.names.days(60);
        due.names.days(39);
        due.names.says(0, 1);
        due.names.days(1);
        Due.is("99 stays", due.names.name(0, 1), 99);
        Due.is("said back on that DAY", due.names.name(1, 1), 1);
        Due.is("DAY", due.names.count(1), 100);
    }

    private static void rowToldLast() {
        Due due = Due.of(SEVEN, "9");
        due.row("none at first");
        due.names.line();
        due.row("seven", 0, 1, 2, 3, 4, 5, 6);
        due.names.robs(0);
        due.row("one, not eight", -1);
        due.names.says(0, 1);
        due.names.moves(0, 5);
        due.names.sheet(2, 7, 1, 1);
        due.names.heard(0, 0);
        due.names.saw(0, 0, 0);
        due.names.keep(0);
        due.names.undo();
        due.names.again(0);
        due.row("calls that tell nothing leave it", -1);
        due.names.wed();
        due.row("a call that tells nothing, as it says");
    }

    private static void rowsFromTheFirstOn() {
        // 10 11 12, by 1 or 2 and 3 or 4
        Due due = Due.of("0010;1011;2011;3012;4012", "");
        Due.is("three", due.names.rich(), 3);
        due.row("the first that differs tells", 0, 1, 3);
        due = Due.of("0000;0000;0000;0000", "");
        Due.is("all at one PLACE", due.names.mouths(), 0);
        due.row("1 0 .. is less than 1 2 ..", 1, 0, 3, 2);
    }

    private static void setsAreBits() {
        Due due = Due.of(ALL_LOUD, "");
        Due.is("none", due.names.one(0, 3) & ~1, 0);
        due.names.calls(6);
        Due.is("all seven", due.names.one(6, 3), 127);
        Due.is("none", due.names.one(0, 3), 0);
    }

    private static void lowestTerms() {
        Due due = new Due();
        due.names.walks(0, 2, 5, 0);
        due.row("50 by 100", 1, 2);
        due.names.walks(0, 1, 3, 5);
        due.row("0 by 10", 0, 1);
        due.names.walks(0, 12, 5, 9);
        due.row("24 by 4096", 3, 512);
        due.names.walks(3, 12, 10, 9);
        due.row("1 by 1", 1, 1);
    }

    private static void lawsOfHearing() {
        for (int voice = 0; voice <= 9; voice++) {
            Due due = new Due();
            for (int far = 0; far <= 9; far++) {
                int can = 0;
                for (int law = 0; law < 160; law++) {
                    can += law / 40 * voice - law / 10 % 4 * far >= law % 10 ? 1 : 0;
                }
                due.names.saw(voice, far, 1);
                Due.is("laws by which VOICE " + voice + " can " + far + " off", due.names.laws(), can);
                due.names.denies();
                due.names.saw(voice, far, 0);
                Due.is("laws by which VOICE " + voice + " can't " + far + " off", due.names.laws(), 160 - can);
                due.names.denies();
            }
        }
    }

    private static Due busy() {
        Due due = Due.of("0910;2320;9130;4440", "");
        due.names.says(0, 1);
        due.names.says(3, 0);
        due.names.days(2);
        due.names.moves(2, 3);
        due.names.keep(0);
        due.names.says(0, 2);
        due.names.heard(1, 1);
        due.names.saw(3, 4, 1);
        return due;
    }

    private static void asksAll(Due due) {
        NamesInMouths x = due.names;
        for (int i = 0; i < 4; i++) {
            x.brings(i, 3 - i);
            x.later(i, 50);
            x.home(i);
            x.poor(i);
            x.leads(i);
            x.robs(i);
            x.goes(i);
        }
        x.rings();
        x.order();
        x.silences(30);
        x.peace();
        x.wed();
        x.loud();
        x.mouths();
        x.criers(2);
        x.line();
        x.rich();
        x.fits();
        x.asks();
        x.laws();
        x.tries();
        x.walks(3, 12, 4, 5);
        x.hush(20, 19);
        x.rests(2);
        due.law("9");
        x.years(7, 60);
        x.count(4);
    }

    private static void alike(String what, Due due, Due twin) {
        Due.is(what, due.state().equals(twin.state()), true);
    }

    private static void questions() {
        Due due = busy();
        Due twin = busy();
        asksAll(due);
        alike("all is as it was", due, twin);
        for (int i = 0; i < 5; i++) {
            Due.is("undo", due.names.undo(), twin.names.undo());
            alike("undone alike", due, twin);
        }
        Due.is("kept alike", due.names.again(0) && twin.names.again(0), true);
        alike("again alike", due, twin);
    }

    /** Each a call that is refused, by the greatest and the least number of what it refuses. */
    private static long[] refuseAll(NamesInMouths x, int beside, int below) {
        return new long[] {x.says(beside, 0), x.says(0, below), x.signs(beside, 1), x.signs(1, below), x.moves(beside, 1),
            x.moves(0, below), x.calls(beside), x.days(beside), x.days(below), x.brings(beside, 0), x.brings(0, below),
            x.later(beside, 1), x.later(0, below), x.home(below), x.poor(beside), x.leads(below), x.robs(beside),
            x.silences(below), x.goes(beside), x.criers(below), x.heard(beside, 0), x.heard(0, below), x.saw(beside, 0, 0),
            x.saw(0, below, 0), x.saw(0, 0, beside), x.walks(beside, 0, 0, 0), x.walks(0, below, 0, 0), x.walks(0, 0, beside, 0),
            x.walks(0, 0, 0, below), x.hush(beside, 0), x.hush(0, below), x.rests(beside), x.years(1, below),
            x.sheet(beside, 1, 1, 1), x.sheet(0, Integer.MAX_VALUE, 1, 1), x.count(below)};
    }

    private static void refusedChangeNothing() {
        for (int beside : new int[] {100, Integer.MAX_VALUE}) {
            Due due = busy();
            due.names.line();
            due.names.sign(0x31313131);
            String state = due.state();
            String told = due.told();
            long[] answers = refuseAll(due.names, beside, beside == 100 ? -1 : Integer.MIN_VALUE);
            for (int i = 0; i < answers.length; i++) {
                Due.is("refused call " + i, answers[i], NamesInMouths.NONE);
            }
            Due.is("keep", due.names.keep(beside), false);
            Due.is("again", due.names.again(-beside), false);
            Due.is("end", due.names.end(beside), false);
            Due.is("THE TEXT stays where it is not read", due.names.count(11), 4);
            Due.is("nothing changed", due.state().equals(state), true);
            Due.is("nothing was told", due.told().equals(told), true);
        }
    }

    private static void readersEmptyTheText() {
        Due due = busy();
        due.names.line();
        String state = due.state();
        String told = due.told();
        Due.is("people", due.people("12x4"), -3);
        Due.is("THE TEXT behind it", due.names.count(11), 0);
        Due.is("rule", due.rule("v+x"), -3);
        Due.is("THE TEXT behind it", due.names.count(11), 0);
        Due.is("week", due.week("n1s0"), -5);
        Due.is("THE TEXT behind it", due.names.count(11), 0);
        Due.is("law", due.law("9-"), -10002);
        Due.is("THE TEXT behind it", due.names.count(11), 0);
        Due.is("nothing changed", due.state().equals(state), true);
        Due.is("nothing was told", due.told().equals(told), true);
        Due.is("people who come", due.people("1234"), 1);
        Due.is("THE TEXT behind them", due.names.count(11), 0);
        Due.is("a rule", due.rule("9"), 0);
        Due.is("THE TEXT behind it", due.names.count(11), 0);
        Due.is("a week", due.week("n1"), 1);
        Due.is("THE TEXT behind it", due.names.count(11), 0);
        Due.is("another law", due.law("9"), 0);
        Due.is("THE TEXT behind it", due.names.count(11), 0);
    }

    private static void rule() {
        Edge.of(0, "THE RULE is a text of at most 40 signs (at first none: v-f).", TermsEdgesTest::ruleAtFirst);
        Edge.of(0, "< > = bind least (two; 1 or 0; not one behind the other)", TermsEdgesTest::comparisons);
        Edge.of(0, "then + - (from the left)", TermsEdgesTest::sums);
        Edge.of(0, "then * / (from the left; by 0: 0; cut to 0)", TermsEdgesTest::products);
        Edge.of(0, "then - ahead of a thing (any many)", TermsEdgesTest::signsAhead);
        Edge.of(0, "a NUMBER of 1 to 3 digits", TermsEdgesTest::numbers);
        Edge.of(0, "an EXPRESSION in ( ) (at most 4 in one another)", TermsEdgesTest::brackets);
        Edge.of(0, "h how many NAMES he HOLDS, a AGE of the NAME, o 1 if it is his own, else 0", TermsEdgesTest::things);
        Edge.of(0, "n DAY by 7 (rest)", TermsEdgesTest::dayBySeven);
        Edge.of(0, "As ints: HE CAN SAY the NAME, if it is 0 or more, and he does not HOLD it.", TermsEdgesTest::asInts);
    }

    private static void people() {
        Edge.of(-1, "An object is used for at most 512 calls after it has been made", TermsEdgesTest::calledOften);
        Edge.of(0, "PEOPLE 0 .. (at most 7)", TermsEdgesTest::sevenAtMost);
        Edge.of(0, "a PLACE 0 .. 9 along the dyke, VOICE 0 .. 9, PURSE 0 .. 99", TermsEdgesTest::leastAndMostOfOne);
        Edge.of(0, "its HOLDER is one of PEOPLE (at first himself)", TermsEdgesTest::himselfAtFirst);
        Edge.of(0, "AGE 0 .. 99 (DAYS since it was said; at first 0)", TermsEdgesTest::ages);
        Edge.of(0, "They are told by a text of at most 34 signs", TermsEdgesTest::thirtyFourSigns);
        Edge.of(0, "LINES with ; between, each one more: four digits", TermsEdgesTest::linesOfFourDigits);
        Edge.of(0, "FAR of two: between their PLACES.", TermsEdgesTest::far);
        Edge.of(0, "DAY (at first 0), SAID 0 .. 9999 (at first 0).", TermsEdgesTest::dayAndSaidAtFirst);
        Edge.of(0, "its AGE is 0, SAID is 1 more (9999 at most).", TermsEdgesTest::saidAtMost);
        Edge.of(0, "each who does not HOLD his own NAME SAYS it, if he CAN (as all is then).", TermsEdgesTest::asAllIsThen);
        Edge.of(0, "(if there is 1, and his is below 99)", TermsEdgesTest::pursesOfADay);
        Edge.of(0, "AGE of each NAME is 1 more (99 at most), DAY 1 more.", TermsEdgesTest::agesOfADay);
    }

    private static void rowAndRefusals() {
        Edge.of(0, "ROW: numbers told last by a call that says so.", TermsEdgesTest::rowToldLast);
        Edge.of(0, "Rows of numbers are compared from the first on.", TermsEdgesTest::rowsFromTheFirstOn);
        Edge.of(0, "Sets (of PEOPLE, NAMES) are bits.", TermsEdgesTest::setsAreBits);
        Edge.of(0, "Fractions are told in lowest terms, upper and lower number (0 by 1).", TermsEdgesTest::lowestTerms);
        Edge.of(0, "a, b 0 .. 3, c 0 .. 9: he can, if a times VOICE less b times FAR is c or more",
            TermsEdgesTest::lawsOfHearing);
        Edge.of(0, "Questions change nothing.", TermsEdgesTest::questions);
        Edge.of(0, "Refused calls answer NONE, or false, and change nothing", TermsEdgesTest::refusedChangeNothing);
        Edge.of(0, "but THE TEXT, which a call that reads it empties.", TermsEdgesTest::readersEmptyTheText);
    }

    public static void main(String[] args) {
        people();
        rule();
        rowAndRefusals();
        Edge.ends(Edge.WHAT_IT_IS, Edge.TERMS);
    }
}
