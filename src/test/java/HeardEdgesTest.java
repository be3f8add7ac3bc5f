/** The edges that promises 33 to 40 name, each by the document's own words. */
public final class HeardEdgesTest {
    private static final int NONE = NamesInMouths.NONE;
    private static final int LEAST = Integer.MIN_VALUE;
    private static final int MOST = Integer.MAX_VALUE;
    private static final String SEVEN = "0910;0920;0930;0940;0950;0960;0970";

    /** NAMES: 0 by 3 at 9, AGE 0; 1 by 1 at 3, AGE 2; 2 by 2 at 0, AGE 2; 3 by 2 at 0, AGE 0. */
    private static Due four() {
        Due due = Due.of("5500;3399;0050;9951", "9");
        due.names.days(2);
        due.names.says(3, 0);
        due.names.says(2, 3);
        due.rule("");
        return due;
    }

    /** From 0 to the most it is heard, beside that not. */
    private static void heardTo(int what, int most) {
        Due due = new Due();
        for (int v : new int[] {-1, most + 1, LEAST, MOST}) {
            Due.is("heard(" + what + ", " + v + ")", due.names.heard(what, v), NONE);
        }
        Due.is("heard(" + what + ", 0)", due.names.heard(what, 0), 1);
        Due.is("heard(" + what + ", " + most + ")", due.names.heard(what, most), 2);
        Due.is("what was heard", due.names.count(7), 2);
    }

    private static void fit(int what, int v, int names) {
        Due due = four();
        due.names.heard(what, v);
        Due.is("fits by heard(" + what + ", " + v + ")", due.names.fits(), names);
    }

    private static void holder() {
        heardTo(0, 6);
        fit(0, 3, 1);
        fit(0, 2, 12);
        fit(0, 0, 0);
        fit(0, 4, 0);
        fit(0, 6, 0);
    }

    private static void age() {
        heardTo(1, 99);
        fit(1, 0, 15);
        fit(1, 1, 6);
        fit(1, 2, 6);
        fit(1, 3, 0);
        Due due = Due.of("5500", "");
        due.names.days(60);
        due.names.days(38);
        due.names.heard(1, 99);
        Due.is("98", due.names.fits(), 0);
        due.names.days(1);
        Due.is("99", due.names.fits(), 1);
    }

    private static void purse() {
        heardTo(2, 99);
        fit(2, 0, 15);
        fit(2, 1, 14);
        fit(2, 50, 14);
        fit(2, 51, 10);
        fit(2, 52, 2);
        fit(2, 99, 2);
    }

    private static void place() {
        heardTo(3, 9);
        fit(3, 0, 12);
        fit(3, 3, 2);
        fit(3, 9, 1);
        fit(3, 5, 0);
    }

    private static void sayer() {
        heardTo(4, 6);
        // by v-f: 0 (5 at 5) 4 off from 3, 2 from 1, 5 from 2; 1 (3 at 3) 6, 3 off; 2 (0 at 0) 9, 3 off; 3 (9 at 9) hears all
        fit(4, 0, 15);
        fit(4, 1, 12);
        fit(4, 2, 0);
        fit(4, 3, 14);
        fit(4, 4, 0);
        fit(4, 6, 0);
    }

    private static void twelveHeard() {
        Due due = new Due();
        for (int what : new int[] {-1, 5, LEAST, MOST}) {
            Due.is("heard(" + what + ", 0)", due.names.heard(what, 0), NONE);
        }
        for (int i = 1; i <= 12; i++) {
            Due.is("heard " + i, due.names.heard(i % 5, 0), i);
        }
        for (int what = 0; what <= 4; what++) {
            Due.is("a thirteenth of " + what, due.names.heard(what, 0), NONE);
        }
        Due.is("12 were heard", due.names.count(7), 12);
    }

    private static void forgotten() {
        Due due = Due.of(SEVEN, "");
        Due.is("nothing", due.names.forget(), 0);
        for (int i = 0; i < 12; i++) {
            due.names.heard(0, i % 2);
        }
        Due.is("none fits", due.names.fits(), 0);
        Due.is("12", due.names.forget(), 12);
        Due.is("nothing is left", due.names.forget(), 0);
        Due.is("all fit", due.names.fits(), 127);
        Due.is("anew", due.names.heard(0, 6), 1);
        Due.is("one fits", due.names.fits(), 64);
    }

    private static void fitAll() {
        Due due = new Due();
        Due.is("nobody", due.names.fits(), 0);
        due.row("nobody", 0);
        due.people(SEVEN);
        Due.is("nothing was heard: all", due.names.fits(), 127);
        due.row("seven", 7);
        for (int i = 0; i < 11; i++) {
            due.names.heard(2, 20);
        }
        Due.is("eleven times", due.names.fits(), 126);
        due.names.heard(2, 70);
        Due.is("the twelfth counts, too", due.names.fits(), 64);
        due.row("one", 1);
        due.names.sheet(2, 7, 63, 1);
        Due.is("now none", due.names.fits(), 0);
        due.row("none", 0);
    }

    private static void asksWhatMayBeHeard() {
        Due due = Due.of("0000;1000;9000;9000", "0-1");
        Due.is("PLACE 9", due.names.asks(), 39);
        due.row("two of four", 2);
        due = Due.of("0000;0000;0000;0000;0000;0000;0100", "9");
        due.names.calls(0);
        due.rule("0-1");
        due.names.days(1);
        due.rule("9");
        for (int name = 0; name < 3; name++) {
            due.names.says(1, name);
            due.names.says(0, name);
        }
        due.rule("v*(a>0)-1");
        Due.is("whether 6 CAN SAY it", due.names.asks(), 46);
        due.row("four of seven", 4);
        due = Due.of("0000;0000;0000;0000;0000;0000;0000", "9");
        due.names.calls(6);
        for (int name = 0; name < 3; name++) {
            due.names.says(5, name);
        }
        due.rule("0-1");
        Due.is("HOLDER 5 or 6", due.names.asks(), 5);
        due.row("four of seven", 4);
        // AGE and PURSE may be heard, but are not asked for
        due = Due.of("0000;0050", "9");
        due.names.says(0, 1);
        due.rule("0-1");
        Due.is("PURSES are not asked for", due.names.asks(), 0);
        due.row("both are left", 2);
    }

    private static void asksFewest() {
        Due due = Due.of(SEVEN, "9");
        due.names.calls(0);
        due.rule("0-1");
        Due.is("nothing parts seven", due.names.asks(), 0);
        due.row("seven are left", 7);
        // HOLDERS part one from six; PLACE 0 three from four, PLACE 1 two from five
        due = Due.of("1000;1000;0000;0000;0000;2000;3000", "0-1");
        Due.is("PLACE 0", due.names.asks(), 30);
        due.row("four are left", 4);
        due.names.heard(3, 0);
        Due.is("HOLDER 2", due.names.asks(), 2);
        due.row("two are left", 2);
    }

    private static void asksLeast() {
        Due due = Due.of("0000;1000", "0-1");
        Due.is("00, 01, 30 or 31", due.names.asks(), 0);
        due.row("one is left", 1);
        due.names.heard(0, 1);
        Due.is("one fits: all alike", due.names.asks(), 0);
        due.row("one is left", 1);
    }

    private static void asksNot() {
        Due due = new Due();
        due.names.days(0);
        Due.is("nobody", due.names.asks(), -2);
        due.row("nothing is told", 0, 0);
        due.people(SEVEN);
        due.names.heard(2, 71);
        Due.is("none fits", due.names.asks(), -2);
        due.row("nothing is told", 0, 0);
    }

    private static void sawFrom0To9() {
        Due due = new Due();
        int[] beside = {-1, 10, LEAST, MOST};
        for (int n : beside) {
            Due.is("VOICE " + n, due.names.saw(n, 0, 1), NONE);
            Due.is("FAR " + n, due.names.saw(0, n, 1), NONE);
        }
        for (int is : new int[] {-1, 2, LEAST, MOST}) {
            Due.is("is " + is, due.names.saw(0, 0, is), NONE);
        }
        Due.is("0 at 0", due.names.saw(0, 0, 0), 1);
        Due.is("9 at 0", due.names.saw(9, 0, 1), 2);
        Due.is("0 at 9", due.names.saw(0, 9, 0), 3);
        Due.is("9 at 9", due.names.saw(9, 9, 1), 4);
        Due.is("what was seen", due.names.count(8), 4);
    }

    private static void tenSeen() {
        Due due = new Due();
        for (int i = 1; i <= 10; i++) {
            Due.is("saw " + i, due.names.saw(9, 0, 1), i);
        }
        Due.is("an eleventh", due.names.saw(9, 0, 1), NONE);
        Due.is("an eleventh that would tell", due.names.saw(9, 0, 0), NONE);
        Due.is("10 were seen", due.names.count(8), 10);
        // 9 a is c or more: a 0: c 0; a 1 .. 3: all: 4 times 31
        Due.is("it changes nothing", due.names.laws(), 124);
    }

    private static void denied() {
        Due due = new Due();
        Due.is("nothing", due.names.denies(), 0);
        for (int i = 0; i < 10; i++) {
            due.names.saw(0, 0, i % 2);
        }
        Due.is("none fits", due.names.laws(), 0);
        Due.is("10", due.names.denies(), 10);
        Due.is("nothing is left", due.names.denies(), 0);
        Due.is("all fit", due.names.laws(), 160);
        Due.is("anew", due.names.saw(0, 0, 1), 1);
        Due.is("c 0", due.names.laws(), 16);
    }

    private static void lawsOf160() {
        Due due = new Due();
        Due.is("all", due.names.laws(), 160);
        due.row("the least", 0, 0, 0);
        // 9 a can't be: a 0, c 1 .. 9
        due.names.saw(9, 0, 0);
        Due.is("a 0", due.names.laws(), 36);
        due.row("c 1", 0, 0, 1);
    }

    private static void lawsLeast() {
        Due due = new Due();
        due.names.saw(3, 0, 1);
        due.names.saw(2, 0, 0);
        // a 1: c 3; a 2: c 5, 6; a 3: c 7 .. 9: 6 times 4
        Due.is("c above 2 a, not above 3 a", due.names.laws(), 24);
        due.row("the least a", 1, 0, 3);
        due.names.saw(1, 0, 0);
        due.names.saw(9, 9, 0);
        // a 1: 9 - 9 b is below 3: b 1 .. 3; a 2: b 2, 3; a 3: b 3
        Due.is("not 9 off", due.names.laws(), 3 + 4 + 3);
        due.row("the least b", 1, 1, 3);
        due.names.saw(9, 6, 1);
        // a 1: b 1: 3 is 3; a 2: b 2: 6, both c; a 3: b 3: 9, three c
        Due.is("6 off", due.names.laws(), 6);
        due.row("the least", 1, 1, 3);
        due.names.saw(5, 3, 0);
        // a 1 b 1: 2; a 2 b 2: 4; a 3 b 3: 6: all can't
        Due.is("3 off", due.names.laws(), 6);
        due.names.saw(3, 0, 0);
        Due.is("none", due.names.laws(), 0);
        due.row("nothing");
    }

    private static void lawsSeenTenth() {
        Due due = new Due();
        for (int i = 0; i < 9; i++) {
            due.names.saw(0, 0, 1);
        }
        Due.is("by nine", due.names.laws(), 16);
        due.names.saw(1, 3, 0);
        // a is below 3 b: b 1 .. 3 and a 0 .. 3, but 3 and 1
        Due.is("by the tenth, too", due.names.laws(), 11);
        due.row("the least", 0, 1, 0);
    }

    private static void tried(int best, int left, int... seen) {
        Due due = new Due();
        for (int i = 0; i < seen.length; i += 3) {
            due.names.saw(seen[i], seen[i + 1], seen[i + 2]);
        }
        Due.is("tries behind " + java.util.Arrays.toString(seen), due.names.tries(), best);
        due.row("left at most", left);
    }

    private static void triesFewest() {
        tried(74, 83);
        tried(90, 36, 3, 0, 0);
        tried(95, 71, 2, 5, 0);
        tried(89, 54, 7, 1, 1);
        tried(39, 7, 2, 9, 0, 4, 9, 1);
        tried(99, 36, 3, 0, 1, 2, 6, 0);
        // 10 off would leave fewer, but can't be
        tried(23, 23, 6, 9, 1);
        tried(34, 36, 8, 7, 1);
    }

    private static void triesLeast() {
        // c 0: VOICE 2, 3 off parts seven from nine, as 3, 4 and 4, 5 do
        tried(23, 9, 0, 0, 1);
        // one law: all alike
        tried(0, 1, 0, 0, 1, 0, 1, 0, 1, 3, 1);
        // nobody can, ever: all alike
        tried(0, 36, 9, 0, 0);
    }

    private static void triesNot() {
        Due due = new Due();
        due.names.days(0);
        due.names.saw(0, 0, 1);
        due.names.saw(0, 0, 0);
        Due.is("none fits", due.names.tries(), -2);
        due.row("nothing is told", 0, 0);
    }

    private static void whoseItWas() {
        Edge.of(33, "what 0: its HOLDER is v (0 .. 6)", HeardEdgesTest::holder);
        Edge.of(33, "1: AGE is v (0 .. 99) or more", HeardEdgesTest::age);
        Edge.of(33, "2: PURSE of whose it is is v (0 .. 99) or more", HeardEdgesTest::purse);
        Edge.of(33, "3: its HOLDER is at PLACE v (0 .. 9)", HeardEdgesTest::place);
        Edge.of(33, "4: v (0 .. 6) CAN SAY it", HeardEdgesTest::sayer);
        Edge.of(33, "Refused: others, 12.", HeardEdgesTest::twelveHeard);
        Edge.of(34, "It is forgotten: how many there were.", HeardEdgesTest::forgotten);
        Edge.of(35, "that fit all that was heard now; the ROW: how many.", HeardEdgesTest::fitAll);
        Edge.of(36, "10 times what (0, 3, 4) and v, as they may be heard", HeardEdgesTest::asksWhatMayBeHeard);
        Edge.of(36, "the fewest such NAMES are left at most", HeardEdgesTest::asksFewest);
        Edge.of(36, "of equal ones the least: it; the ROW: how many at most.", HeardEdgesTest::asksLeast);
        Edge.of(36, "-2: none fits.", HeardEdgesTest::asksNot);
    }

    private static void laws() {
        Edge.of(37, "one of VOICE v (0 .. 9) could say it FAR f (0 .. 9) off (is 1) or not (0)", HeardEdgesTest::sawFrom0To9);
        Edge.of(37, "Refused: others, 10.", HeardEdgesTest::tenSeen);
        Edge.of(38, "It is denied: how many there were.", HeardEdgesTest::denied);
        Edge.of(39, "Laws (160 of them)", HeardEdgesTest::lawsOf160);
        Edge.of(39, "that fit all that was seen: how many", HeardEdgesTest::lawsSeenTenth);
        Edge.of(39, "the least a, b, c (nothing without)", HeardEdgesTest::lawsLeast);
        Edge.of(40, "the fewest laws are left at most", HeardEdgesTest::triesFewest);
        Edge.of(40, "of equal ones the least; the ROW: how many at most.", HeardEdgesTest::triesLeast);
        Edge.of(40, "-2: none fits.", HeardEdgesTest::triesNot);
    }

    public static void main(String[] args) {
        whoseItWas();
        laws();
        Edge.ends(33, 40);
    }
}
