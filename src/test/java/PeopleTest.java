/** Promises 1 to 8: a new object, sign, end, people, rule, one, name, sheet. */
public final class PeopleTest {
    private static final String SEVEN = "0011;1122;2233;3344;4455;5566;6677";

    private static void newObject() {
        Due due = new Due();
        for (int what = 0; what <= 11; what++) {
            Due.is("new: count(" + what + ")", due.names.count(what), 0);
        }
        due.row("new");
        Due.throwsNoSuch("new: one(0, 0)", () -> due.names.one(0, 0));
        Due.throwsNoSuch("new: name(0, 0)", () -> due.names.name(0, 0));
    }

    private static void sign() {
        Due due = new Due();
        for (int i = 1; i <= 20; i++) {
            Due.is("sign " + i, due.names.sign(0x30303030), 4 * i);
        }
        Due.is("sign above 80", due.names.sign(0x30303030), NamesInMouths.NONE);
        Due.is("sign above 80 adds nothing", due.names.count(11), 80);
        due.names.end(77);
        Due.is("sign to 81", due.names.sign(0), -1);
        due.names.end(76);
        Due.is("sign to 80", due.names.sign(0), 80);
        due.names.end(0);
        due.names.sign('1' << 24 | '2' << 16 | '3' << 8 | '4');
        Due.is("the highest byte is first", due.names.people(), 1);
        Due.is("PLACE of the highest byte", due.names.one(0, 0), 1);
        Due.is("PURSE of the lowest bytes", due.names.one(0, 2), 34);
        due.names.sign(-1);
        Due.is("a sign of 255 is no digit", due.names.people(), -1);
    }

    private static void end() {
        Due due = new Due();
        Due.is("end(0) of none", due.names.end(0), true);
        Due.is("end(1) of none", due.names.end(1), false);
        due.names.sign(0x31323334);
        Due.is("end(-1)", due.names.end(-1), false);
        Due.is("end(5) of 4", due.names.end(5), false);
        Due.is("refused end leaves all", due.names.count(11), 4);
        Due.is("end(4) of 4", due.names.end(4), true);
        Due.is("end(3) of 4", due.names.end(3), true);
        Due.is("end(3) leaves 3", due.names.count(11), 3);
        Due.is("end(4) of 3", due.names.end(4), false);
    }

    private static void people() {
        Due due = new Due();
        Due.is("empty people", due.people(""), 0);
        String[] texts = {"x", "1", "11", "111", "11x1", "11111", "1111;", "1111;;", "1111;1", ";", "1111,1111", "-111"};
        int[] wrong = {0, 1, 2, 3, 2, 4, 5, 5, 6, 0, 4, 0};
        for (int i = 0; i < texts.length; i++) {
            Due.is("people " + texts[i], due.people(texts[i]), -1 - wrong[i]);
            Due.is("people " + texts[i] + " empties THE TEXT", due.names.count(11), 0);
        }
        Due.is("people " + SEVEN + ";", due.people(SEVEN + ";"), -35);
        Due.is("people " + SEVEN + "x", due.people(SEVEN + "x"), -35);
        Due.is("people of 39 signs", due.people(SEVEN + ";1111"), -35);
        Due.is("wrong ahead of 34, and too long", due.people(SEVEN.replace('5', 'x') + ";1111"), -23);
        Due.is("nobody came", due.names.count(0), 0);
        Due.is("two LINES", due.people("1234;9876"), 2);
        Due.is("five more and one too many", due.people("1111;1111;1111;1111;1111;2222"), -26);
        Due.is("no room, though it is too short", due.people("1111;1111;1111;1111;1111;2"), -26);
        Due.is("nothing of it came", due.names.count(0), 2);
        Due.is("five more", due.people("1111;1111;1111;1111;1111"), 5);
        Due.is("all are there", due.names.count(0), 7);
        Due.is("no room for the first", due.people("1111"), -1);
        Due.is("no room for the first, wrong behind", due.people("1x"), -1);
        Due.is("an empty text needs no room", due.people(""), 0);
        Due.is("the first is as he was", due.names.one(0, 2), 34);
        Due.is("the second is as he was", due.names.one(1, 0), 9);
        due = new Due();
        Due.is("seven at once", due.people(SEVEN), 7);
        Due.is("the seventh", due.names.one(6, 2), 77);
    }

    private static void peopleComeLater() {
        Due due = Due.of("0910;1920", "");
        due.names.says(1, 0);
        due.names.days(3);
        due.names.keep(0);
        Due.is("an empty people() forgets nothing", due.people(""), 0);
        Due.is("undone: 2", due.names.count(9), 2);
        Due.is("a refused people() forgets nothing", due.people("12"), -3);
        Due.is("undone: still 2", due.names.count(9), 2);
        Due.is("one more", due.people("5501"), 1);
        Due.is("people() forgets what can be undone", due.names.count(9), 0);
        Due.is("his NAME is his own", due.names.name(2, 0), 2);
        Due.is("its AGE is 0", due.names.name(2, 1), 0);
        Due.is("DAY goes on", due.names.count(1), 3);
    }

    /** What the text is worth for 0 and the NAME of 1. */
    private static void worth(Due due, String text, int worth) {
        String law = "(" + text + "=" + worth + ")-1";
        int answer = due.law(law);
        Due.is(law + " is a rule", answer > -1000, true);
        Due.is(text + " is " + worth, due.names.row(2) >> 1 & 1, 1);
    }

    private static void expressions() {
        // 0: PLACE 2, VOICE 7; 1: PLACE 5, VOICE 4; 2: PLACE 9, VOICE 1. 2 HOLDS the NAME of 1, of AGE 3, on DAY 10
        Due due = Due.of("2710;5420;9130", "9");
        due.names.days(7);
        due.names.says(2, 1);
        due.rule("0-1");
        due.names.days(3);
        String[] texts = {"v", "u", "f", "h", "a", "o", "n", "v-u-f", "v-u*f", "8/3*2", "8*2/3", "0-8/3", "-8/3", "8/(0-3)",
            "5/0", "5/(v-v)", "--5", "---5", "2--5", "2*-3", "-v", "-(v+1)", "1<2", "2<1", "2>1", "1>2", "2=2", "2=3",
            "1+1<3*1", "(1<2)+(2<3)", "((((7))))", "999", "007", "999*999*999", "999*999*999*999*999", "3<2+1",
            "7-3-2", "8/4/2", "2-3*-4"};
        int[] worth = {7, 1, 7, 1, 3, 0, 3, -1, 0, 4, 5, -2, -2, -2,
            0, 0, 5, -5, 7, -6, -7, -8, 1, 0, 1, 0, 1, 0,
            1, 2, 7, 999, 7, 997002999, 999 * 999 * 999 * 999 * 999, 0,
            2, 1, 14};
        for (int i = 0; i < texts.length; i++) {
            boolean compares = texts[i].indexOf('<') >= 0 || texts[i].indexOf('>') >= 0 || texts[i].indexOf('=') >= 0;
            boolean single = compares && texts[i].charAt(0) != '(';
            if (worth[i] >= -9999 && worth[i] <= 9999) {
                worth(due, single ? "(" + texts[i] + ")" : texts[i].startsWith("((((") ? "(7)" : texts[i], worth[i]);
            } else {
                Due.is(texts[i] + " is as ints", due.law(texts[i]) > -1000, true);
                Due.is(texts[i] + " can be said", due.names.row(2) >> 1 & 1, worth[i] >= 0 ? 1 : 0);
            }
        }
        due.rule("");
        Due.is("o of one's own", due.law("o-1") > -1000, true);
        Due.is("o of one's own: 1 can say his", due.names.row(3), 2);
    }

    private static void intsWrap() {
        Due due = Due.of("2710;5420", "");
        // 65536 times 32768 is the least int, which divided by -1 stays what it is
        Due.is("the least int by -1", due.law("256*256*128*256/-1"), -2);
        Due.is("the least int is below 0", due.law("256*256*128*256"), -2);
        Due.is("less 1 it is above 0", due.law("256*256*128*256-1"), 0);
    }

    private static void rule() {
        Due due = Due.of("0510;1599;2501;9520", "");
        String[] texts = {"z", "v+", "v<u<f", "(v", "(((((v", "1000", "v v", ")", "v)", "()", "(v<u<f)", "+v", "v*/u", "*",
            "-", "v--", "12a", "v1", "1v", "(v)(u)", "(v)1", "v<", "<v", "v=u=1", "((((v))))", "((((v)))", "v<(u<f)<1", "V"};
        int[] wrong = {0, 2, 3, 2, 4, 3, 1, 0, 1, 1, 4, 0, 2, 0,
            1, 3, 2, 1, 1, 3, 3, 2, 0, 3, -1, 8, 7, 0};
        for (int i = 0; i < texts.length; i++) {
            Due.is("rule " + texts[i], due.rule(texts[i]), -1 - wrong[i]);
            Due.is("rule " + texts[i] + " empties THE TEXT", due.names.count(11), 0);
        }
        String forty = "v+v+v+v+v+v+v+v+v+v+v+v+v+v+v+v+v+v+v+10";
        Due.is("a rule of 40 signs", due.rule(forty), 0);
        Due.is("a rule of 41 signs", due.rule(forty + "0"), -41);
        Due.is("a rule of 41 signs, the last wrong", due.rule(forty + "x"), -41);
        Due.is("40 signs that end too early", due.rule("-" + forty.substring(0, 38) + "-"), -41);
        Due.is("40 signs that could go on, and more", due.rule("-" + forty.substring(0, 38) + "-v"), -41);
        Due.is("40 times - is too early", due.rule("-".repeat(40)), -41);
        Due.is("39 times - and a thing", due.rule("-".repeat(39) + "1"), 0);
        Due.is("nobody can say by it", due.names.name(0, 2), 0);
        Due.is("a wrong rule changes none", due.rule("9x"), -2);
        Due.is("still nobody can", due.names.name(0, 2), 0);
        Due.is("rule 9", due.rule("9"), 0);
        Due.is("all others can say", due.names.name(0, 2), 14);
        Due.is("an empty rule is none", due.rule(""), 0);
        Due.is("v-f: those not farther than 5", due.names.name(0, 2), 6);
    }

    private static void oneAndName() {
        Due due = Due.of("2305;4907;9010", "");
        int[][] ones = {{2, 3, 5, 1, 2}, {4, 9, 7, 2, 5}, {9, 0, 10, 4, 0}};
        for (int one = 0; one < 3; one++) {
            for (int what = 0; what < 5; what++) {
                Due.is("one(" + one + ", " + what + ")", due.names.one(one, what), ones[one][what]);
            }
        }
        due.names.says(1, 2);
        due.names.days(2);
        Due.is("name(2, 0)", due.names.name(2, 0), 1);
        Due.is("name(2, 1)", due.names.name(2, 1), 2);
        Due.is("name(2, 2): 2 is too far off, 1 HOLDS it", due.names.name(2, 2), 1);
        Due.is("name(2, 3)", due.names.name(2, 3), 5);
        Due.is("one(1, 3) holds two", due.names.one(1, 3), 6);
        for (int who : new int[] {-1, 3, 7, 99, Integer.MIN_VALUE, Integer.MAX_VALUE}) {
            Due.throwsNoSuch("one(" + who + ", 0)", () -> due.names.one(who, 0));
            Due.throwsNoSuch("name(" + who + ", 0)", () -> due.names.name(who, 0));
        }
        Due.throwsNoSuch("one(0, -1)", () -> due.names.one(0, -1));
        Due.throwsNoSuch("one(0, 5)", () -> due.names.one(0, 5));
        Due.throwsNoSuch("name(0, -1)", () -> due.names.name(0, -1));
        Due.throwsNoSuch("name(0, 4)", () -> due.names.name(0, 4));
    }

    private static void purses(String what, Due due, int... purses) {
        for (int i = 0; i < purses.length; i++) {
            Due.is(what + ": PURSE of " + i, due.names.one(i, 2), purses[i]);
        }
    }

    private static void sheet() {
        Due due = Due.of("0011;1122;2233", "");
        Due.is("ints", due.names.sheet(2, 3, 5, 100), 5 + 99 + 99);
        purses("ints", due, 5, 99, 99);
        Due.is("ints below 0", due.names.sheet(2, 3, -10, 15), 5 + 20);
        purses("ints below 0", due, 0, 5, 20);
        Due.is("ints wrap", due.names.sheet(2, 3, Integer.MAX_VALUE, 3), 99 + 0 + 0);
        Due.is("bytes", due.names.sheet(0, 3, 127, 1), 99 + 0 + 0);
        Due.is("bytes of 256 and more", due.names.sheet(0, 3, 256 + 7, 257), 7 + 8 + 9);
        purses("bytes", due, 7, 8, 9);
        Due.is("shorts", due.names.sheet(1, 3, 32767, 1), 99);
        Due.is("shorts of 65536 and more", due.names.sheet(1, 2, 65536 + 7, 65537), 7 + 8);
        purses("those behind it have 0", due, 7, 8, 0);
        Due.is("of a short no byte is taken", due.names.sheet(1, 1, 263, 0), 99);
        Due.is("more entries than PEOPLE", due.names.sheet(2, 7, 1, 1), 6);
        Due.is("no entries", due.names.sheet(2, 0, 1, 1), 0);
        due.names.sheet(2, 3, 4, 0);
        Due.is("n below 0", due.names.sheet(0, -1, 1, 1), -2);
        Due.is("n below 0, ints", due.names.sheet(2, Integer.MIN_VALUE, 1, 1), -2);
        Due.is("n above 7", due.names.sheet(2, 8, 1, 1), -1);
        Due.is("another kind", due.names.sheet(4, 1, 1, 1), -1);
        Due.is("another kind, n below 0", due.names.sheet(-1, -1, 1, 1), -1);
        Due.is("missing, n above 7", due.names.sheet(3, 8, 1, 1), -1);
        purses("nothing changed", due, 4, 4, 4);
        Due.is("missing, n below 0", due.names.sheet(3, -5, 1, 1), -3);
        purses("missing", due, 0, 0, 0);
        Due.is("sheets can't be undone", due.names.count(9), 0);
        due = Due.of(SEVEN, "");
        Due.is("seven", due.names.sheet(2, 7, 10, 1), 91);
        purses("seven", due, 10, 11, 12, 13, 14, 15, 16);
    }

    public static void main(String[] args) {
        newObject();
        sign();
        end();
        people();
        peopleComeLater();
        expressions();
        intsWrap();
        rule();
        oneAndName();
        sheet();
        Due.ends();
    }
}
