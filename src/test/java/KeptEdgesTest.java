/** The edges that promises 46 to 49 name, each by the document's own words. */
public final class KeptEdgesTest {
    private static final int LEAST = Integer.MIN_VALUE;
    private static final int MOST = Integer.MAX_VALUE;
    private static final String THREE = "0510;1520;2530";
    private static final String SEVEN = "0910;0920;0930;0940;0950;0960;0970";

    private static void keepUnder0And1() {
        Due due = Due.of(THREE, "");
        Due.is("keep(0)", due.names.keep(0), true);
        due.names.moves(0, 9);
        Due.is("keep(1)", due.names.keep(1), true);
        due.names.moves(0, 5);
        due.names.again(0);
        Due.is("0", due.names.one(0, 0), 0);
        due.names.again(1);
        Due.is("1", due.names.one(0, 0), 9);
        due.names.moves(0, 3);
        Due.is("keep(0) anew", due.names.keep(0), true);
        due.names.again(1);
        due.names.again(0);
        Due.is("0 anew", due.names.one(0, 0), 3);
        Due.is("nobody is kept, too", new Due().names.keep(1), true);
    }

    private static void keepNot() {
        Due due = Due.of(THREE, "");
        for (int i : new int[] {-1, 2, 32, LEAST, MOST}) {
            Due.is("keep(" + i + ")", due.names.keep(i), false);
            Due.is("again(" + i + ")", due.names.again(i), false);
        }
        Due.is("nothing was kept under 0", due.names.again(0), false);
        Due.is("nothing was kept under 1", due.names.again(1), false);
    }

    private static void againAsKept() {
        Due due = Due.of(THREE, "9");
        due.names.says(1, 0);
        due.names.days(3);
        due.names.says(2, 1);
        due.names.keep(0);
        String there = due.state();
        due.names.signs(1, 9);
        due.names.moves(1, 8);
        due.names.calls(0);
        due.names.days(2);
        due.names.sheet(2, 3, 1, 1);
        Due.is("again", due.names.again(0), true);
        due.names.says(0, 2);
        due.names.undo();
        due.names.again(0);
        // but for what can be undone, which again() forgets
        Due.is("it is as it was", due.state().equals(there.replaceFirst(" 0 0 3 ", " 0 0 0 ")), true);
        Due.is("HOLDER", due.names.name(1, 0), 2);
        Due.is("AGE", due.names.name(2, 1), 3);
        Due.is("DAY", due.names.count(1), 3);
    }

    private static void againNot() {
        Due due = new Due();
        Due.is("of a new object", due.names.again(0), false);
        due.names.keep(0);
        due.names.days(5);
        Due.is("under another number", due.names.again(1), false);
        due.people("");
        Due.is("nobody came", due.names.again(0), true);
        Due.is("DAY", due.names.count(1), 0);
        due.people("0510");
        String state = due.state();
        Due.is("one came", due.names.again(0), false);
        Due.is("one came", due.names.again(1), false);
        Due.is("nothing changed", due.state().equals(state), true);
        due.names.keep(1);
        due.people("051");
        Due.is("nobody came since", due.names.again(1), true);
        Due.is("not kept since", due.names.again(0), false);
        due.people("0510");
        Due.is("one came once more", due.names.again(1), false);
    }

    private static void counts() {
        Due due = Due.of(SEVEN, "");
        due.names.calls(0);
        due.rule("0-1");
        due.names.sheet(2, 7, 99, 0);
        due.names.days(60);
        due.names.days(60);
        for (int i = 0; i < 12; i++) {
            due.names.heard(0, 0);
            due.names.saw(0, 0, 0);
            due.names.moves(0, i % 2 + 1);
        }
        due.law("9");
        for (int i = 0; i < 20; i++) {
            due.names.sign(0);
        }
        // all PURSES are full, so none goes; the ROW of law() has two numbers and seven sets
        int[] most = {7, 120, 6, 1, 693, 693, 63, 12, 10, 12, 9, 80};
        for (int what = 0; what < most.length; what++) {
            Due.is("count(" + what + ")", due.names.count(what), most[what]);
        }
    }

    private static void countNot() {
        Due due = Due.of(THREE, "");
        for (int what : new int[] {-1, 12, LEAST, MOST}) {
            Due.is("count(" + what + ")", due.names.count(what), NamesInMouths.NONE);
        }
    }

    private static void rowNot() {
        Due due = Due.of(SEVEN, "");
        for (int i : new int[] {-1, 0, LEAST, MOST}) {
            Due.throwsNoSuch("row(" + i + ") of none", () -> due.names.row(i));
        }
        due.law("9");
        Due.is("row(8)", due.names.row(8), 63);
        for (int i : new int[] {-1, 9, LEAST, MOST}) {
            Due.throwsNoSuch("row(" + i + ") of nine", () -> due.names.row(i));
        }
        due.names.robs(0);
        Due.is("row(0)", due.names.row(0), -1);
        Due.throwsNoSuch("row(1), which was there", () -> due.names.row(1));
        due.names.wed();
        Due.throwsNoSuch("row(0), which was there", () -> due.names.row(0));
        due.names.walks(0, 9, 1, 9);
        Due.is("a number beyond ints' tenth digit", due.names.row(1), 1000000000L);
        due.names.walks(9, 12, 1, 9);
        Due.is("a number beyond ints", due.names.row(1), 50000000000L);
    }

    /** Whatever was told is gone by each call that tells, also if it tells less, or nothing. */
    private static void rowOfEach() {
        int[] told = {2, 2, 0, 2, 1, 1, 2, 2, 1, 6, 2, 2, 1, 0, 2, 7, 1, 7, 7, 1, 1, 3, 1, 2, 2, 0, 2, 0, 2};
        for (int call = 0; call < told.length; call++) {
            Due due = Due.of("0001;1002;2003;3004;4005;5006;6007", "9");
            for (int name = 0; name < 7; name++) {
                due.names.says((name + 1) % 7, name);
            }
            due.law("9");
            Due.is("nine numbers", due.names.count(10), 9);
            told(due, call);
            Due.is("numbers of call " + call, due.names.count(10), told[call]);
        }
    }

    private static void told(Due due, int call) {
        NamesInMouths x = due.names;
        switch (call) {
            case 0 -> x.days(1);
            case 1 -> due.week("n1");
            case 2 -> x.brings(0, 1);
            case 3 -> x.later(0, 1);
            case 4 -> x.home(0);
            case 5 -> {
                x.sheet(3, 0, 0, 0);
                x.poor(0);
            }
            case 6 -> x.leads(0);
            case 7 -> x.rings();
            case 8 -> x.robs(0);
            case 9 -> x.order();
            case 10 -> x.silences(1);
            case 11 -> x.goes(0);
            case 12 -> x.peace();
            case 13 -> x.wed();
            case 14 -> x.loud();
            case 15 -> x.mouths();
            case 16 -> x.criers(1);
            case 17 -> x.line();
            case 18 -> x.rich();
            case 19 -> x.fits();
            case 20 -> x.asks();
            case 21 -> x.laws();
            case 22 -> x.tries();
            case 23 -> x.walks(0, 1, 1, 1);
            case 24 -> x.hush(1, 2);
            case 25 -> x.hush(1, 1);
            case 26 -> x.rests(0);
            case 27 -> x.rests(3);
            default -> x.years(1, 1);
        }
    }

    public static void main(String[] args) {
        Edge.of(46, "is kept under a number 0 .. 1: true.", KeptEdgesTest::keepUnder0And1);
        Edge.of(46, "Refused: others.", KeptEdgesTest::keepNot);
        Edge.of(47, "It is as it was kept under a number.", KeptEdgesTest::againAsKept);
        Edge.of(47, "Refused: nothing kept, PEOPLE came since.", KeptEdgesTest::againNot);
        Edge.of(48, "What 0: PEOPLE, 1: DAY, 2: SAID", KeptEdgesTest::counts);
        Edge.of(48, "10: numbers of the ROW", KeptEdgesTest::rowOfEach);
        Edge.of(48, "NONE for another what.", KeptEdgesTest::countNot);
        Edge.of(49, "NoSuchElementException: none such.", KeptEdgesTest::rowNot);
        Edge.ends(46, 49);
    }
}
