/** The edges that promises 1 to 8 name, each by the document's own words. */
public final class PeopleEdgesTest {
    private static final int NONE = NamesInMouths.NONE;
    private static final int[] BESIDE_THREE = {-1, 3, 7, Integer.MIN_VALUE, Integer.MAX_VALUE};
    private static final String SEVEN = "0011;1122;2233;3344;4455;5566;6677";
    private static final String THREE = "2305;4907;9010";

    private static void newObject() {
        for (int what = 0; what <= 11; what++) {
            Due.is("count(" + what + ")", new Due().names.count(what), 0);
        }
        Due due = new Due();
        due.row("no ROW");
        for (int one : new int[] {-1, 0, 1}) {
            Due.throwsNoSuch("one(" + one + ", 0)", () -> due.names.one(one, 0));
            Due.throwsNoSuch("name(" + one + ", 0)", () -> due.names.name(one, 0));
        }
        Due.is("says", due.names.says(0, 0), NONE);
        Due.is("signs", due.names.signs(0, 1), NONE);
        Due.is("moves", due.names.moves(0, 1), NONE);
        Due.is("calls", due.names.calls(0), NONE);
        Due.is("undo", due.names.undo(), NONE);
        Due.is("brings", due.names.brings(0, 0), NONE);
        Due.is("later", due.names.later(0, 0), NONE);
        Due.is("home", due.names.home(0), NONE);
        Due.is("poor", due.names.poor(0), NONE);
        Due.is("leads", due.names.leads(0), NONE);
        Due.is("robs", due.names.robs(0), NONE);
        Due.is("goes", due.names.goes(0), NONE);
        Due.is("again", due.names.again(0), false);
        due.row("none of these tells");
        Due.is("PURSES of nobody", due.names.sheet(2, 7, 5, 1), 0);
        Due.is("a DAY of nobody", due.names.days(1), 0);
        due.row("a DAY of nobody", 0, 0);
    }

    private static void highestByteFirst() {
        Due due = new Due();
        Due.is("four", due.names.sign(0x39383736), 4);
        Due.is("PEOPLE", due.names.people(), 1);
        Due.is("the highest", due.names.one(0, 0), 9);
        Due.is("the second", due.names.one(0, 1), 8);
        Due.is("the two lowest", due.names.one(0, 2), 76);
        due.names.sign(0x31323300);
        Due.is("a byte of 0 is a sign", due.names.people(), -4);
        due.names.sign(0x313233FF);
        Due.is("a byte of 255 is one", due.names.people(), -4);
        due.names.sign(0xB1323334);
        Due.is("a sign of 128 and more is no digit", due.names.people(), -1);
        Due.is("the least int", due.names.sign(Integer.MIN_VALUE), 4);
        Due.is("the greatest int", due.names.sign(Integer.MAX_VALUE), 8);
    }

    private static void eightySigns() {
        Due due = new Due();
        for (int i = 1; i <= 20; i++) {
            Due.is("sign " + i, due.names.sign(0x31313131), 4 * i);
        }
        Due.is("81 .. 84", due.names.sign(0), NONE);
        Due.is("signs", due.names.count(11), 80);
        for (int n = 79; n >= 77; n--) {
            due.names.end(n);
            Due.is("from " + n, due.names.sign(0), NONE);
            Due.is("signs", due.names.count(11), n);
        }
        due.names.end(76);
        Due.is("from 76", due.names.sign(0), 80);
    }

    private static void firstAlone() {
        Due due = new Due();
        Due.is("0 of 0", due.names.end(0), true);
        due.names.sign(0x31323334);
        due.names.sign(0x35363738);
        Due.is("8 of 8", due.names.end(8), true);
        Due.is("signs", due.names.count(11), 8);
        Due.is("4 of 8", due.names.end(4), true);
        Due.is("the first", due.names.people(), 1);
        Due.is("PURSE", due.names.one(0, 2), 34);
        due.names.sign(0x31323334);
        Due.is("0 of 4", due.names.end(0), true);
        Due.is("signs", due.names.count(11), 0);
    }

    private static void notSoMany() {
        Due due = new Due();
        Due.is("1 of 0", due.names.end(1), false);
        due.names.sign(0x31323334);
        for (int n : new int[] {5, 80, 81, Integer.MAX_VALUE, -1, -4, Integer.MIN_VALUE}) {
            Due.is(n + " of 4", due.names.end(n), false);
            Due.is("signs", due.names.count(11), 4);
        }
        due.names.end(3);
        Due.is("what was cut off is gone", due.names.end(4), false);
    }

    private static void emptyPeople() {
        Due due = Due.of(THREE, "");
        Due.is("nothing", due.people(""), 0);
        Due.is("PEOPLE", due.names.count(0), 3);
    }

    private static void linesThatCame() {
        for (int lines = 1; lines <= 7; lines++) {
            Due due = new Due();
            Due.is("LINES", due.people(SEVEN.substring(0, 5 * lines - 1)), lines);
            Due.is("PEOPLE", due.names.count(0), lines);
        }
    }

    private static void cannotStand() {
        Due due = new Due();
        char[] wrong = {'/', ':', ';', ' ', '-', 'a', 0, 255};
        for (char sign : wrong) {
            for (int p = 0; p < 4; p++) {
                String text = "1234".substring(0, p) + sign + "1234".substring(p + 1);
                Due.is(text, due.people(text), -1 - p);
            }
        }
        Due.is("a digit where ; is due", due.people("12341234"), -5);
        Due.is("in the last LINE", due.people(SEVEN.substring(0, 33) + "x"), -34);
        Due.is("nobody came", due.names.count(0), 0);
    }

    private static void endsTooEarly() {
        Due due = new Due();
        for (int n = 1; n < 34; n++) {
            if (n % 5 != 4) {
                Due.is(n + " signs", due.people(SEVEN.substring(0, n)), -1 - n);
            }
        }
        Due.is("nobody came", due.names.count(0), 0);
    }

    private static void moreThan34() {
        Due due = new Due();
        String[] more = {";", "x", "1", ";1", ";1111", ";1111;1111", ";" + "1111;".repeat(9)};
        for (String signs : more) {
            Due.is("34 signs and " + signs, due.people(SEVEN + signs), -35);
        }
        String wrong = SEVEN.substring(0, 33) + "x";
        Due.is("wrong at 33, and more", due.people(wrong + ";1111"), -34);
        Due.is("wrong at 33, and none", due.people(wrong), -34);
        Due.is("nobody came", due.names.count(0), 0);
    }

    private static void noRoom() {
        for (int there = 1; there <= 7; there++) {
            Due due = Due.of(SEVEN.substring(0, 5 * there - 1), "");
            int first = 5 * (7 - there);
            Due.is("no room beside " + there, due.people(SEVEN), -1 - first);
            Due.is("no room beside " + there + ", and too long", due.people(SEVEN + ";1111"), -1 - first);
            Due.is("PEOPLE", due.names.count(0), there);
            if (there < 7) {
                Due.is("no room beside " + there + ", ends there", due.people(SEVEN.substring(0, first)), -1 - first);
                Due.is("just room beside " + there, due.people(SEVEN.substring(0, first - 1)), 7 - there);
                Due.is("PEOPLE", due.names.count(0), 7);
            }
        }
    }

    private static void nothingOfItComes() {
        Due due = Due.of(THREE, "");
        due.names.says(1, 0);
        String state = due.state();
        for (String text : new String[] {"1111;2222;333", "1111;2222;", "1111;x", SEVEN, SEVEN + ";"}) {
            Due.is(text + " is refused", due.people(text) < 0, true);
            Due.is(text + " changes nothing", due.state().equals(state), true);
        }
    }

    private static void emptyRule() {
        Due due = Due.of("0300;3000;4000", "9");
        Due.is("by 9", due.names.one(0, 4), 6);
        Due.is("none", due.rule(""), 0);
        Due.is("by v-f", due.names.one(0, 4), 2);
    }

    private static void ruleLikewise() {
        Due due = Due.of(THREE, "9");
        String state = due.state();
        String[] texts = {"x", "(", "9+", "9+*1", "9-", "9v", "v9", "9)", "9(", ")", "*9", "=9", "9=", "9==9", "12345", " 9",
            "9 ", "N", ":", "/", "v/", "(9", "(9+", "((9)", "-", "--"};
        int[] wrong = {0, 1, 2, 2, 2, 1, 1, 1, 1, 0, 0, 0, 2, 2, 3, 0,
            1, 0, 0, 0, 2, 2, 3, 4, 1, 2};
        for (int i = 0; i < texts.length; i++) {
            Due.is("rule " + texts[i], due.rule(texts[i]), -1 - wrong[i]);
            Due.is("rule " + texts[i] + " leaves THE RULE", due.names.one(0, 4), 6);
        }
        Due.is("nothing changes", due.state().equals(state), true);
        ruleOf40();
    }

    private static void ruleOf40() {
        Due due = Due.of(THREE, "");
        String forty = "1" + "+1".repeat(19) + "1";
        Due.is("40 signs", due.rule(forty), 0);
        Due.is("all CAN SAY", due.names.one(0, 4), 6);
        Due.is("39 signs", due.rule(forty.substring(0, 39)), 0);
        Due.is("40 signs, and one that could go on", due.rule(forty + "1"), -41);
        Due.is("40 signs, and one that can't", due.rule(forty + "x"), -41);
        Due.is("40 signs, and 40 more", due.rule(forty + forty), -41);
        Due.is("40 signs that could go on", due.rule("1+".repeat(20)), -41);
        Due.is("40 signs that could go on, and one more", due.rule("1+".repeat(20) + "1"), -41);
        Due.is("40 times -", due.rule("-".repeat(40)), -41);
        Due.is("80 times -", due.rule("-".repeat(80)), -41);
        Due.is("wrong at 39, and more", due.rule(forty.substring(0, 39) + "x1"), -40);
        Due.is("( ) closed too late", due.rule("(" + forty.substring(0, 39) + ")"), -41);
        Due.is("( ) closed in time", due.rule("(" + forty.substring(0, 37) + ")"), 0);
    }

    private static void none(String what, Due due, int beside) {
        for (int kind = 0; kind <= 4; kind++) {
            int each = kind;
            Due.throwsNoSuch(what + " one(" + beside + ", " + kind + ")", () -> due.names.one(beside, each));
            Due.throwsNoSuch(what + " name(" + beside + ", " + kind + ")", () -> due.names.name(beside, each));
        }
    }

    private static void noSuchOne() {
        Due due = Due.of(THREE, "");
        for (int beside : BESIDE_THREE) {
            none("of three", due, beside);
        }
        none("of seven", Due.of(SEVEN, ""), 7);
        for (int what : new int[] {-1, 5, Integer.MIN_VALUE, Integer.MAX_VALUE}) {
            Due.throwsNoSuch("one(0, " + what + ")", () -> due.names.one(0, what));
            Due.throwsNoSuch("one(3, " + what + ")", () -> due.names.one(3, what));
        }
        Due.is("one(2, 4)", due.names.one(2, 4), 0);
    }

    private static void bitsOfOne() {
        Due due = Due.of(SEVEN, "9");
        Due.is("his own", due.names.one(6, 3), 64);
        Due.is("all but his own", due.names.one(6, 4), 63);
        due.names.calls(6);
        Due.is("all", due.names.one(6, 3), 127);
        Due.is("none", due.names.one(6, 4), 0);
        Due.is("none", due.names.one(0, 3), 0);
        Due.is("all", due.names.one(0, 4), 127);
    }

    private static void bitsOfName() {
        Due due = Due.of(THREE, "9");
        Due.is("all but its HOLDER", due.names.name(0, 2), 6);
        Due.is("all but its HOLDER", due.names.name(2, 2), 3);
        due.names.says(2, 0);
        Due.is("whose it is, too", due.names.name(0, 2), 3);
        due.rule("0-1");
        Due.is("nobody", due.names.name(0, 2), 0);
        due = Due.of(SEVEN, "9");
        Due.is("six", due.names.name(6, 2), 63);
        Due.is("six", due.names.name(0, 2), 126);
    }

    private static void noSuchName() {
        Due due = Due.of(THREE, "");
        for (int what : new int[] {-1, 4, Integer.MIN_VALUE, Integer.MAX_VALUE}) {
            Due.throwsNoSuch("name(0, " + what + ")", () -> due.names.name(0, what));
            Due.throwsNoSuch("name(3, " + what + ")", () -> due.names.name(3, what));
        }
        for (int beside : BESIDE_THREE) {
            Due.throwsNoSuch("name(" + beside + ", 3)", () -> due.names.name(beside, 3));
        }
        Due.is("name(2, 3)", due.names.name(2, 3), 0);
    }

    private static void purses(Due due, String what, int sum, int answer, int... purses) {
        Due.is(what, answer, sum);
        for (int i = 0; i < purses.length; i++) {
            Due.is(what + ": PURSE of " + i, due.names.one(i, 2), purses[i]);
        }
    }

    private static void lowestBits() {
        Due due = Due.of(THREE, "");
        NamesInMouths x = due.names;
        purses(due, "bytes 98, 99, 100", 296, x.sheet(0, 3, 98, 1), 98, 99, 99);
        purses(due, "bytes 126, 127, 128", 198, x.sheet(0, 3, 126, 1), 99, 99, 0);
        purses(due, "bytes 255, 256, 257", 1, x.sheet(0, 3, 255, 1), 0, 0, 1);
        purses(due, "bytes -1, 0, 1", 1, x.sheet(0, 3, -1, 1), 0, 0, 1);
        purses(due, "bytes -256, -255, -254", 3, x.sheet(0, 3, -256, 1), 0, 1, 2);
        purses(due, "bytes -129, -128, -127", 99, x.sheet(0, 3, -129, 1), 99, 0, 0);
        purses(due, "shorts 255, 256, 257", 297, x.sheet(1, 3, 255, 1), 99, 99, 99);
        purses(due, "shorts 32766, 32767, 32768", 198, x.sheet(1, 3, 32766, 1), 99, 99, 0);
        purses(due, "shorts 65535, 65536, 65537", 1, x.sheet(1, 3, 65535, 1), 0, 0, 1);
        purses(due, "shorts -32769, -32768, -32767", 99, x.sheet(1, 3, -32769, 1), 99, 0, 0);
        purses(due, "ints 65536 and more", 297, x.sheet(2, 3, 65536, 1), 99, 99, 99);
        purses(due, "ints -1, 0, 1", 1, x.sheet(2, 3, -1, 1), 0, 0, 1);
        purses(due, "ints 99, 100, 101", 297, x.sheet(2, 3, 99, 1), 99, 99, 99);
        purses(due, "ints wrap", 198, x.sheet(2, 3, Integer.MAX_VALUE - 1, 1), 99, 99, 0);
        purses(due, "ints wrap to 7", 7, x.sheet(2, 3, Integer.MIN_VALUE, Integer.MIN_VALUE + 7), 0, 7, 0);
    }

    private static void behindIt() {
        Due due = Due.of(SEVEN, "");
        int[] sums = {0, 5, 11, 18, 26, 35, 45, 56};
        for (int n = 7; n >= 0; n--) {
            Due.is(n + " entries", due.names.sheet(2, n, 5, 1), sums[n]);
            for (int one = 0; one < 7; one++) {
                Due.is(n + " entries: PURSE of " + one, due.names.one(one, 2), one < n ? 5 + one : 0);
            }
        }
        due = Due.of(THREE, "");
        Due.is("the sum of three", due.names.sheet(2, 7, 5, 1), 18);
        Due.is("PURSES together", due.names.count(4), 18);
        Due.is("they can't be undone", due.names.count(9), 0);
        due.people("1111");
        Due.is("one who comes later has his own", due.names.one(3, 2), 11);
    }

    private static void nBelow0() {
        Due due = Due.of(THREE, "");
        for (int kind = 0; kind <= 2; kind++) {
            Due.is("-1 of kind " + kind, due.names.sheet(kind, -1, 1, 1), -2);
            Due.is("the least of kind " + kind, due.names.sheet(kind, Integer.MIN_VALUE, 1, 1), -2);
            Due.is("nothing changes", due.names.count(4), 22);
        }
    }

    private static void missing() {
        for (int n : new int[] {-1, 0, 7, Integer.MIN_VALUE}) {
            Due due = Due.of(THREE, "");
            Due.is("missing, n " + n, due.names.sheet(3, n, 50, 1), -3);
            purses(due, "missing, n " + n, 0, due.names.count(4), 0, 0, 0);
        }
    }

    private static void otherSheets() {
        Due due = Due.of(THREE, "");
        for (int kind : new int[] {-1, 4, Integer.MIN_VALUE, Integer.MAX_VALUE}) {
            for (int n : new int[] {1, -1, 8}) {
                Due.is("kind " + kind + ", n " + n, due.names.sheet(kind, n, 1, 1), NONE);
            }
        }
        for (int kind = 0; kind <= 3; kind++) {
            Due.is("kind " + kind + ", n 8", due.names.sheet(kind, 8, 1, 1), NONE);
            Due.is("kind " + kind + ", most", due.names.sheet(kind, Integer.MAX_VALUE, 1, 1), NONE);
        }
        Due.is("nothing changes", due.names.count(4), 22);
    }

    private static void texts() {
        Edge.of(1, "No PEOPLE.", PeopleEdgesTest::newObject);
        Edge.of(2, "of v the highest byte first: how many it has.", PeopleEdgesTest::highestByteFirst);
        Edge.of(2, "Refused: there would be more than 80.", PeopleEdgesTest::eightySigns);
        Edge.of(3, "THE TEXT has its first n signs alone: true", PeopleEdgesTest::firstAlone);
        Edge.of(3, "false if it has not so many, or n is below 0.", PeopleEdgesTest::notSoMany);
        Edge.of(4, "(an empty one: nothing)", PeopleEdgesTest::emptyPeople);
        Edge.of(4, ": how many LINES.", PeopleEdgesTest::linesThatCame);
        Edge.of(4, "-1 - p: the sign at p can't stand there", PeopleEdgesTest::cannotStand);
        Edge.of(4, "its end, if it ends too early", PeopleEdgesTest::endsTooEarly);
        Edge.of(4, "34, if it has more and the first 34 could go on or end", PeopleEdgesTest::moreThan34);
        Edge.of(4, "the first sign of a LINE for which there is no room", PeopleEdgesTest::noRoom);
        Edge.of(4, "Nothing of it comes, if a LINE can't.", PeopleEdgesTest::nothingOfItComes);
        Edge.of(5, "(an empty one: none): 0.", PeopleEdgesTest::emptyRule);
        Edge.of(5, "-1 - p: likewise (40 signs).", PeopleEdgesTest::ruleLikewise);
    }

    private static void onesAndSheets() {
        Edge.of(6, "3: NAMES that he HOLDS (bits), 4: NAMES that he CAN SAY now (bits).", PeopleEdgesTest::bitsOfOne);
        Edge.of(6, "NoSuchElementException: none such, another what.", PeopleEdgesTest::noSuchOne);
        Edge.of(7, "2: who CAN SAY it now (bits)", PeopleEdgesTest::bitsOfName);
        Edge.of(7, "NoSuchElementException: likewise.", PeopleEdgesTest::noSuchName);
        Edge.of(8, "(of bytes, shorts the lowest bits, with their sign; put to 0 .. 99)", PeopleEdgesTest::lowestBits);
        Edge.of(8, "or a missing one (3): those behind it have 0: the sum of all.", PeopleEdgesTest::behindIt);
        Edge.of(8, "-2: n below 0 (of kinds 0 .. 2; nothing changes)", PeopleEdgesTest::nBelow0);
        Edge.of(8, "-3: missing (all 0).", PeopleEdgesTest::missing);
        Edge.of(8, "NONE: another kind, n above 7 (these first).", PeopleEdgesTest::otherSheets);
    }

    public static void main(String[] args) {
        texts();
        onesAndSheets();
        Edge.ends(1, 8);
    }
}
