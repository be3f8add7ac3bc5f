/** The edges that promises 23 to 28 name, each by the document's own words. */
public final class BackEdgesTest {
    private static final int NONE = NamesInMouths.NONE;
    private static final int LEAST = Integer.MIN_VALUE;
    private static final int MOST = Integer.MAX_VALUE;
    private static final int[] BESIDE_THREE = {-1, 3, 7, LEAST, MOST};
    private static final String THREE = "0910;1920;2930";
    private static final String SEVEN = "0910;0920;0930;0940;0950;0960;0970";

    /** The NAME of each of these is HELD by the next one. */
    private static Due shifted(String people, int from, int to) {
        Due due = Due.of(people, "9");
        for (int name = from; name <= to; name++) {
            due.names.says((name + 1) % due.names.count(0), name);
        }
        return due;
    }

    private static void orderOnce() {
        Due due = Due.of(THREE, "");
        Due.is("all HOLD their own", due.names.order(), 3);
        due.row("nobody says");
        // 0 and 1 HOLD none: who HOLDS one can't
        due = shifted(THREE, 0, 1);
        due.rule("0-h");
        // 1 HOLDS that of 0, 2 those of 1 and 2: 0 says his, then 1
        Due.is("0, then 1", due.names.order(), 3);
        due.row("0, then 1", 0, 1);
        due = Due.of(THREE, "9");
        due.names.says(0, 1);
        due.names.says(1, 2);
        due.rule("0-h");
        Due.is("2, then 1", due.names.order(), 3);
        due.row("2, then 1", 2, 1);
        Due.is("nothing is done", due.names.count(3), 1);
        due = new Due();
        due.names.days(0);
        Due.is("nobody", due.names.order(), 0);
        due.row("nobody");
    }

    private static void orderLeastRow() {
        Due due = shifted(THREE, 0, 2);
        Due.is("all can", due.names.order(), 3);
        due.row("all can", 0, 1, 2);
        due = shifted("0910;0920;0930;0940", 0, 3);
        due.rule("0-1");
        Due.is("nobody can", due.names.order(), 0);
        due.row("who can't is in it, too", 0, 1, 2, 3);
        // who HOLDS none can't: of two who HOLD each other's, one comes home
        due = shifted("0910;0920", 0, 1);
        due.rule("h-1");
        Due.is("0 or 1", due.names.order(), 1);
        due.row("0", 0, 1);
        // NAMES: 0 by 1, 1 by 2, 2 by 0, 3 by 0; who HOLDS none can: 3 alone, whenever it is his turn; then 0 HOLDS one
        due = Due.of("0910;0920;0930;0940", "9");
        due.names.says(1, 0);
        due.names.says(2, 1);
        due.names.says(0, 2);
        due.names.says(0, 3);
        due.rule("0-h");
        Due.is("3 alone", due.names.order(), 1);
        due.row("the least", 0, 1, 2, 3);
        due.rule("1-h");
        // who HOLDS one can: 1, 2, 3 at once, 0 behind 2 or 3
        Due.is("all", due.names.order(), 4);
        due.row("0 behind 2 or 3, 1 first", 1, 2, 0, 3);
    }

    private static void orderOfSix() {
        Due due = shifted(SEVEN, 1, 6);
        Due.is("six, and 0 HOLDS his own", due.names.order(), 7);
        due.row("six", 1, 2, 3, 4, 5, 6);
        // 5 has no VOICE and can while he HOLDS the NAME of 0
        due = Due.of("0910;0920;0930;0940;0950;0060;0970", "9");
        due.names.calls(6);
        due.names.says(5, 0);
        due.rule("v+h-1");
        Due.is("5 ahead of 0", due.names.order(), 7);
        due.row("5 ahead of 0", 1, 2, 3, 4, 5, 0);
        due = shifted(SEVEN, 0, 6);
        Due.is("six of seven", due.names.order(), 6);
        due.row("the first six", 0, 1, 2, 3, 4, 5);
        // 6 HOLDS none; 0 could say his own but behind him
        due = shifted(SEVEN, 0, 6);
        due.names.says(0, 5);
        due.rule("0-h");
        Due.is("6 does not say", due.names.order(), 0);
    }

    private static void silencedSaysNothing() {
        Due due = shifted("0910;0920", 0, 0);
        Due.is("not 0, whose NAME would stay away", due.names.silences(1), 1);
        due.row("not 0", 2, 2);
        due = shifted("0910;0920", 0, 1);
        Due.is("one of two stays away", due.names.silences(30), 0);
        due.row("one of two", 1, 2);
        due = Due.of("0910", "");
        Due.is("one alone HOLDS his own", due.names.silences(1), 0);
        due.row("one alone", 1, 1);
    }

    private static void silencesIn1To30() {
        Due due = Due.of(THREE, "9");
        due.names.says(1, 0);
        due.rule("a-29");
        Due.is("in 29", due.names.silences(29), 0);
        due.row("in 29 none comes home", 2, 2);
        Due.is("in 30", due.names.silences(30), 1);
        due.row("in 30 one does, but for who is silenced", 3, 3);
        due.rule("a");
        Due.is("in 1", due.names.silences(1), 1);
        due.row("in 1", 3, 3);
        Due.is("nothing is done", due.names.count(1), 0);
    }

    private static void silencesFirst() {
        Due due = shifted(THREE, 0, 2);
        Due.is("each is missed alike", due.names.silences(1), 0);
        due.row("each is missed alike", 2, 3);
        due.rule("0-1");
        Due.is("none is missed", due.names.silences(1), 0);
        due.row("none is missed", 0, 0);
        // NAMES: 0 by 1, 1 by 2, 2 by 0, 3 by 2; who HOLDS just one can: without 0, 1 and then 2 do
        due = Due.of("0900;0900;0900;0900", "9");
        due.names.says(1, 0);
        due.names.says(2, 1);
        due.names.says(0, 2);
        due.names.says(2, 3);
        due.rule("0-(h>1)-(h<1)");
        Due.is("more than without", due.names.silences(1), 0);
        due.row("more than without", 2, 1);
    }

    private static void silencesNot() {
        Due due = Due.of(THREE, "");
        due.names.line();
        for (int n : new int[] {0, -1, 31, LEAST, MOST}) {
            Due.is("silences(" + n + ")", due.names.silences(n), NONE);
            Due.is("silences(" + n + ") of nobody", new Due().names.silences(n), NONE);
        }
        due.row("nothing is told", 0, 1, 2);
        due = new Due();
        due.names.days(0);
        Due.is("nobody", due.names.silences(1), -2);
        Due.is("nobody", due.names.silences(30), -2);
        due.row("nothing is told", 0, 0);
    }

    private static void goesTo0And9() {
        Due due = Due.of("5000;0000;0000;9000", "");
        Due.is("to two at 0", due.names.goes(0), 0);
        due.row("to two at 0", 2, 5);
        due.names.moves(1, 9);
        Due.is("to two at 9", due.names.goes(0), 9);
        due.row("to two at 9", 2, 4);
        Due.is("he is where he was", due.names.one(0, 0), 5);
        Due.is("one alone stays", Due.of("7900", "").names.goes(0), 7);
        due = Due.of("5000;0000", "f-10");
        Due.is("there is no PLACE 10 off", due.names.goes(0), 5);
        due.row("there is no PLACE 10 off", 0, 0);
        due.rule("f-9");
        Due.is("9 off", due.names.goes(0), 9);
    }

    private static void goesNearest() {
        Due due = Due.of("6000;3000;8000", "");
        Due.is("to 8", due.names.goes(0), 8);
        due.row("to 8", 1, 2);
        due.names.moves(0, 5);
        Due.is("to 3", due.names.goes(0), 3);
        due.row("to 3", 1, 2);
        due.names.moves(2, 7);
        Due.is("to 3 or 7", due.names.goes(0), 3);
        due.row("to 3 or 7", 1, 2);
        due.rule("0-1");
        Due.is("nowhere", due.names.goes(0), 5);
        due.row("nowhere", 0, 0);
        due.rule("9");
        Due.is("anywhere", due.names.goes(0), 5);
        due.row("anywhere", 2, 0);
    }

    private static void goesNot() {
        Due due = Due.of(THREE, "");
        due.names.line();
        for (int beside : BESIDE_THREE) {
            Due.is("goes(" + beside + ")", due.names.goes(beside), NONE);
        }
        due.row("nothing is told", 0, 1, 2);
    }

    private static void peaceIn0To99() {
        Due due = new Due();
        Due.is("nobody", due.names.peace(), 0);
        due.row("nobody", 0);
        due = Due.of(THREE, "9");
        Due.is("they do", due.names.peace(), 0);
        due.row("they do", 60);
        due.names.says(1, 0);
        due.names.says(0, 2);
        Due.is("in 1", due.names.peace(), 1);
        due.row("in 1", 60);
        due.rule("a-98");
        Due.is("in 99", due.names.peace(), 99);
        due.row("in 99", 60);
    }

    private static void peaceNot() {
        Due due = shifted(THREE, 0, 0);
        due.names.line();
        due.rule("a-99");
        Due.is("in 100", due.names.peace(), -2);
        due.rule("0-1");
        Due.is("never", due.names.peace(), -2);
        due.row("nothing is told", 0, 1, 2);
        Due.is("nothing is done", due.names.count(1), 0);
    }

    private static void wedOrNot() {
        Due due = Due.of(SEVEN, "");
        due.names.line();
        Due.is("none", due.names.wed(), 0);
        due.row("nothing");
        due.names.says(5, 6);
        due.names.line();
        Due.is("one way alone", due.names.wed(), 0);
        due.row("nothing");
        due.names.says(6, 5);
        Due.is("5 and 6", due.names.wed(), 1);
        due.row("the lesser first", 5, 6);
        due.names.says(4, 0);
        due.names.says(0, 4);
        due.names.says(3, 1);
        due.names.says(1, 3);
        Due.is("three", due.names.wed(), 3);
        due.row("the least", 0, 4);
        due = new Due();
        due.names.days(0);
        Due.is("nobody", due.names.wed(), 0);
        due.row("nothing");
    }

    private static void loudFirst() {
        Due due = Due.of(SEVEN, "");
        Due.is("all alike", due.names.loud(), 0);
        due.row("six each; none is unsaid", 6, 0);
        due.names.calls(0);
        Due.is("all but 0", due.names.loud(), 1);
        due.row("seven each", 7, 0);
        due.rule("0-1");
        Due.is("nobody can", due.names.loud(), 0);
        due.row("none; all are unsaid", 0, 127);
        due = Due.of("0000;1000;1200;4100", "");
        // 2 hears 1 (at 1) and 0; 1 hears 2; 3 hears nobody, and nobody him
        Due.is("2", due.names.loud(), 2);
        due.row("two; 3 is unsaid", 2, 8);
    }

    private static void loudOfNobody() {
        Due due = new Due();
        due.names.days(0);
        Due.is("nobody", due.names.loud(), -2);
        due.row("nothing is told", 0, 0);
    }

    public static void main(String[] args) {
        Edge.of(23, "once, if he does not HOLD it and CAN then, in any order: the most NAMES that are by whose they are behind it",
            BackEdgesTest::orderOnce);
        Edge.of(23, "(of as good ones the least row of all who do not HOLD their own now)", BackEdgesTest::orderLeastRow);
        Edge.of(23, "(Of more than 6 of these, the first 6 alone SAY.)", BackEdgesTest::orderOfSix);
        Edge.of(24, "who is to be silenced (SAYING nothing)", BackEdgesTest::silencedSaysNothing);
        Edge.of(24, "in n DAYS (1 .. 30), nothing being done", BackEdgesTest::silencesIn1To30);
        Edge.of(24, "of equal ones the first: he", BackEdgesTest::silencesFirst);
        Edge.of(24, "-2: there are no PEOPLE; NONE: another n.", BackEdgesTest::silencesNot);
        Edge.of(25, "The PLACE (0 .. 9)", BackEdgesTest::goesTo0And9);
        Edge.of(25, "of equal ones the nearest to where he is, then the least", BackEdgesTest::goesNearest);
        Edge.of(25, "NONE: none such.", BackEdgesTest::goesNot);
        Edge.of(26, "In how many DAYS (0: they do .. 99) all NAMES are by whose they are, nothing being done",
            BackEdgesTest::peaceIn0To99);
        Edge.of(26, "-2: in none of these.", BackEdgesTest::peaceNot);
        Edge.of(27, "the least, the lesser first (nothing without)", BackEdgesTest::wedOrNot);
        Edge.of(28, "of equal ones the first: he", BackEdgesTest::loudFirst);
        Edge.of(28, "-2: there are no PEOPLE.", BackEdgesTest::loudOfNobody);
        Edge.ends(23, 28);
    }
}
