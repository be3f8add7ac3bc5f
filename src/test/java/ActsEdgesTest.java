/** The edges that promises 9 to 15 name, each by the document's own words. */
public final class ActsEdgesTest {
    private static final int NONE = NamesInMouths.NONE;
    private static final int LEAST = Integer.MIN_VALUE;
    private static final int MOST = Integer.MAX_VALUE;
    private static final int[] BESIDE_THREE = {-1, 3, 7, LEAST, MOST};
    private static final String THREE = "0510;1520;9530";

    private static void unchanged(Due due, String state) {
        Due.is("all is as it was: " + state, due.state().equals(state), true);
    }

    private static void saysCant() {
        Due due = Due.of(THREE, "");
        due.names.says(0, 1);
        String state = due.state();
        Due.is("0 HOLDS 1", due.names.says(0, 1), -2);
        Due.is("2 HOLDS his own", due.names.says(2, 2), -2);
        Due.is("2 is too far off", due.names.says(2, 1), -3);
        Due.is("too far off for 1, too", due.names.says(1, 2), -3);
        unchanged(due, state);
        due.rule("0-1");
        Due.is("HOLDS goes ahead of CAN'T", due.names.says(0, 1), -2);
        for (int beside : BESIDE_THREE) {
            Due.is("says(" + beside + ", 1)", due.names.says(beside, 1), NONE);
            Due.is("says(0, " + beside + ")", due.names.says(0, beside), NONE);
            Due.is("says(" + beside + ", " + beside + ")", due.names.says(beside, beside), NONE);
        }
        due.rule("");
        unchanged(due, state);
    }

    private static void saysHolderSoFar() {
        Due due = Due.of(THREE, "9");
        Due.is("whose it is", due.names.says(0, 2), 2);
        Due.is("0", due.names.says(1, 2), 0);
        Due.is("1", due.names.says(2, 2), 1);
        due.rule("v-5");
        Due.is("by 0, just", due.names.says(0, 2), 2);
        due.rule("v-6");
        Due.is("by -1 not", due.names.says(1, 2), -3);
    }

    private static void signsFrom1To99() {
        Due due = Due.of("0500;1599", "9");
        due.names.says(0, 1);
        for (int n : new int[] {0, -1, 100, LEAST, MOST}) {
            Due.is("for " + n, due.names.signs(1, n), NONE);
        }
        Due.is("for 1", due.names.signs(1, 1), 1);
        Due.is("1 has less", due.names.one(1, 2), 98);
        due.names.undo();
        Due.is("for 99", due.names.signs(1, 99), 99);
        Due.is("1 has none", due.names.one(1, 2), 0);
    }

    private static void signsCant() {
        Due due = Due.of("0560;1550;2500", "9");
        Due.is("his own", due.names.signs(0, 1), -2);
        Due.is("his own goes ahead of what there is", due.names.signs(2, 1), -2);
        due.names.says(0, 1);
        due.names.says(1, 2);
        String state = due.state();
        Due.is("99 at most: 40", due.names.signs(1, 40), -3);
        Due.is("there is no 51", due.names.signs(1, 51), -3);
        Due.is("there is none", due.names.signs(2, 1), -3);
        for (int beside : BESIDE_THREE) {
            Due.is("signs(" + beside + ", 1)", due.names.signs(beside, 1), NONE);
            Due.is("signs(" + beside + ", 0)", due.names.signs(beside, 0), NONE);
        }
        Due.is("his own for 0", due.names.signs(0, 0), NONE);
        Due.is("his own for 100", due.names.signs(0, 100), NONE);
        unchanged(due, state);
        Due.is("99 at most: 39", due.names.signs(1, 39), 99);
        Due.is("11 are left", due.names.one(1, 2), 11);
        due.names.says(2, 1);
        Due.is("there is no 12", due.names.signs(1, 12), -3);
        Due.is("there are 11", due.names.signs(1, 11), 11);
        Due.is("all are gone", due.names.one(1, 2), 0);
    }

    private static void movesTo0And9() {
        Due due = Due.of(THREE, "");
        Due.is("to 9", due.names.moves(0, 9), 9);
        Due.is("to 0", due.names.moves(0, 0), 9);
        Due.is("one back", due.names.moves(1, 0), 1);
        for (int place : new int[] {-1, 10, LEAST, MOST}) {
            Due.is("to " + place, due.names.moves(0, place), NONE);
        }
        Due.is("PLACE", due.names.one(0, 0), 0);
    }

    private static void movesCant() {
        Due due = Due.of(THREE, "");
        String state = due.state();
        Due.is("0 is there", due.names.moves(0, 0), -2);
        Due.is("2 is there", due.names.moves(2, 9), -2);
        for (int beside : BESIDE_THREE) {
            Due.is("moves(" + beside + ", 5)", due.names.moves(beside, 5), NONE);
            Due.is("moves(" + beside + ", 10)", due.names.moves(beside, 10), NONE);
        }
        unchanged(due, state);
    }

    private static void callsCan() {
        Due due = Due.of("0910;0920;0930;0940;0950;0960;0970", "");
        Due.is("six", due.names.calls(3), 6);
        Due.is("seven", due.names.calls(4), 7);
        due.rule("o-1");
        Due.is("one", due.names.calls(0), 1);
        due.rule("2-h");
        Due.is("as many as he CAN then: three", due.names.calls(1), 3);
        Due.is("the first three", due.names.one(1, 3), 7);
        due.names.undo();
        due.rule("0-h");
        Due.is("as he CAN then: one", due.names.calls(1), 1);
        Due.is("the first", due.names.one(1, 3), 1);
    }

    private static void callsCant() {
        Due due = Due.of(THREE, "0-1");
        String state = due.state();
        Due.is("none by -1", due.names.calls(0), -2);
        for (int beside : BESIDE_THREE) {
            Due.is("calls(" + beside + ")", due.names.calls(beside), NONE);
        }
        unchanged(due, state);
        due.rule("9");
        due.names.calls(0);
        Due.is("who HOLDS all", due.names.calls(0), -2);
        Due.is("one alone", Due.of("0910", "").names.calls(0), -2);
    }

    private static void daysFrom0To60() {
        Due due = Due.of(THREE, "");
        due.names.says(1, 0);
        Due.is("0", due.names.days(0), 6);
        due.row("0", 0, 60);
        Due.is("DAY", due.names.count(1), 0);
        Due.is("60", due.names.days(60), 7);
        due.row("60", 1, 60);
        Due.is("DAY", due.names.count(1), 60);
        due.rule("9");
        for (int name = 0; name < 3; name++) {
            due.names.says((name + 1) % 3, name);
        }
        due.rule("0-1");
        Due.is("none is home", due.names.days(1), 0);
        due.rule("9");
        Due.is("all are", due.names.days(1), 7);
        due.row("three are SAID", 3, 60);
    }

    private static void otherDays() {
        Due due = Due.of(THREE, "");
        due.names.line();
        String state = due.state();
        for (int n : new int[] {-1, 61, LEAST, MOST}) {
            Due.is("days(" + n + ")", due.names.days(n), NONE);
        }
        unchanged(due, state);
        due.row("nothing is told", 0, 1, 2);
    }

    private static void emptyWeek() {
        Due due = Due.of(THREE, "");
        due.names.says(1, 0);
        String state = due.state();
        Due.is("nothing", due.week(""), 0);
        due.row("none could not be; SAID", 0, 1);
        unchanged(due, state);
    }

    private static void weekTillOneCant() {
        // -1, -2 and -3 of each ACT that has them
        String[] cant = {"s30", "s03", "s99", "s00", "s20", "g301", "g000", "g100", "g001", "g199", "m35", "m00", "m29", "c3", "c9",
            "c2"};
        for (String act : cant) {
            Due due = Due.of(THREE, "");
            due.names.says(0, 1);
            String state = due.state();
            Due.is(act + " alone", due.week(act + "n1"), 0);
            due.row(act + " alone", 1, 1);
            unchanged(due, state);
            Due.is("two ahead of " + act, due.week("n0n0" + act + "n1"), 2);
            due.row("two ahead of " + act, 1, 1);
            Due.is("DAY", due.names.count(1), 0);
        }
    }

    private static void weekDone() {
        Due due = Due.of("0500;1599;9530", "");
        String[] acts = {"n0", "n9", "s01", "g199", "m09", "m00", "m21", "s12", "c0"};
        int[] said = {0, 0, 1, 1, 1, 1, 1, 2, 3};
        for (int i = 0; i < acts.length; i++) {
            Due.is(acts[i], due.week(acts[i]), 1);
            due.row(acts[i] + ": none could not be; SAID", 0, said[i]);
        }
        Due.is("n9", due.names.count(1), 9);
        Due.is("g199", due.names.one(0, 2), 99);
        Due.is("m21", due.names.one(2, 0), 1);
        Due.is("c0", due.names.one(0, 3), 7);
    }

    private static void weekSigns() {
        Due due = Due.of(THREE, "");
        String state = due.state();
        String[] texts = {"x", "n", "nx", "n1x", "n1n", "n11", "s", "s1", "s1x", "s100", "g", "g1", "g01", "g01x", "g0011",
            "m", "m1", "m1x", "m123", "c", "cx", "c12", "1", ";", "n1;n1", "n1 ", "N1", "d1", "o1", "s1\0", "n" + (char) 255};
        int[] wrong = {0, 1, 1, 2, 3, 2, 1, 2, 2, 3, 1, 2, 3, 3, 4,
            1, 2, 2, 3, 1, 1, 2, 0, 0, 2, 2, 0, 0, 0, 2, 1};
        for (int i = 0; i < texts.length; i++) {
            Due.is("week " + texts[i], due.week(texts[i]), -1 - wrong[i]);
        }
        due.row("nothing is told");
        unchanged(due, state);
    }

    private static void weekOf60() {
        Due due = Due.of(THREE, "");
        String sixty = "n0".repeat(27) + "s01m19";
        Due.is("wrong ahead of 60", due.week("c0c" + "n1".repeat(28) + "n"), -4);
        Due.is("60 signs that end too early", due.week("s01" + "n1".repeat(28) + "n"), -61);
        Due.is("60 signs that could go on, and one", due.week("s01" + "n1".repeat(28) + "n1"), -61);
        Due.is("60 signs that end, and one", due.week(sixty + "n"), -61);
        Due.is("60 signs that end, and one that can't stand", due.week(sixty + "x"), -61);
        Due.is("60 signs that end, and 20", due.week(sixty + "n1".repeat(10)), -61);
        Due.is("wrong at 59, and more", due.week(sixty.substring(0, 59) + "xn1"), -60);
        Due.is("nothing is done", due.names.count(1) + due.names.count(2), 0);
        Due.is("60 signs", due.week(sixty), 29);
        due.row("60 signs", 0, 1);
        Due.is("59 signs", due.week("g101" + "n0".repeat(26) + "m08"), 28);
        due.row("59 signs", 0, 1);
    }

    private static void undoTwelve() {
        Due due = Due.of(THREE, "");
        for (int i = 1; i <= 12; i++) {
            due.names.moves(0, i % 10);
            Due.is("can be undone", due.names.count(9), i);
        }
        due.names.moves(0, 3);
        Due.is("12 of 13", due.names.count(9), 12);
        due.names.moves(0, 3);
        due.names.says(0, 0);
        due.names.days(0);
        Due.is("12 still", due.names.count(9), 12);
        for (int left = 11; left >= 0; left--) {
            Due.is("undo", due.names.undo(), left);
            Due.is("PLACE", due.names.one(0, 0), (left + 1) % 10);
        }
        Due.is("the first is not kept", due.names.undo(), NONE);
        Due.is("PLACE", due.names.one(0, 0), 1);
    }

    private static void undoOnesDone() {
        Due due = Due.of(THREE, "");
        due.names.moves(0, 5);
        due.names.says(0, 0);
        due.names.says(0, 7);
        due.names.says(1, 2);
        due.names.signs(0, 1);
        due.names.signs(0, 0);
        due.names.moves(0, 5);
        due.names.moves(0, 10);
        due.names.calls(3);
        due.names.days(61);
        due.week("x");
        due.names.sheet(2, 3, 1, 1);
        due.names.years(1, 60);
        Due.is("none but moves()", due.names.undo(), 0);
        Due.is("PLACE", due.names.one(0, 0), 0);
    }

    private static void undoDays() {
        Due due = Due.of(THREE, "");
        due.names.days(0);
        Due.is("of 0", due.names.count(9), 0);
        due.names.days(1);
        Due.is("of 1", due.names.count(9), 1);
        due.names.days(60);
        Due.is("of 60", due.names.count(9), 2);
        Due.is("undo 60", due.names.undo(), 1);
        Due.is("DAY", due.names.count(1), 1);
        Due.is("AGES", due.names.count(5), 3);
    }

    private static void undoWeek() {
        Due due = Due.of(THREE, "");
        due.week("");
        due.week("s00n1");
        Due.is("of which none was done", due.names.count(9), 0);
        due.week("n2s00n1");
        Due.is("of which one was done", due.names.count(9), 1);
        due.week("s01s10m05g005c0n3");
        Due.is("of which six were done, as one", due.names.count(9), 2);
        due.week("n0");
        Due.is("of which one ACT was done, of no DAY", due.names.count(9), 3);
        Due.is("undo", due.names.undo(), 2);
        Due.is("undo", due.names.undo(), 1);
        Due.is("SAID", due.names.count(2), 0);
        Due.is("DAY", due.names.count(1), 2);
        Due.is("undo", due.names.undo(), 0);
        Due.is("DAY", due.names.count(1), 0);
    }

    private static int does(Due due, int act) {
        return switch (act) {
            case 0 -> due.names.says(0, 1);
            case 1 -> due.names.signs(2, 1);
            case 2 -> due.names.moves(0, 9);
            case 3 -> due.names.calls(1);
            case 4 -> due.names.days(3);
            default -> due.week("s01m09g201c1n3");
        };
    }

    private static void undoneAsAhead() {
        for (int act = 0; act <= 5; act++) {
            Due due = Due.of(THREE, "9");
            due.names.days(2);
            due.names.says(1, 2);
            due.names.says(2, 0);
            String state = due.state();
            Due.is("act " + act + " is done", does(due, act) >= 0, true);
            Due.is("act " + act + " changes something", due.state().equals(state), false);
            Due.is("undo " + act, due.names.undo(), 3);
            unchanged(due, state);
        }
    }

    private static void nothingToUndo() {
        Due due = new Due();
        Due.is("of a new object", due.names.undo(), NONE);
        due = Due.of(THREE, "");
        Due.is("of PEOPLE who came", due.names.undo(), NONE);
        due.names.says(0, 1);
        Due.is("one", due.names.undo(), 0);
        Due.is("no other", due.names.undo(), NONE);
        Due.is("undo() is not undone", due.names.name(1, 0), 1);
    }

    private static void forgotten() {
        Due due = Due.of(THREE, "");
        due.names.keep(0);
        due.names.says(0, 1);
        due.names.days(3);
        due.people("");
        Due.is("an empty people()", due.names.count(9), 2);
        due.people("12345");
        Due.is("a refused people()", due.names.count(9), 2);
        due.names.again(1);
        due.names.again(2);
        Due.is("a refused again()", due.names.count(9), 2);
        due.names.again(0);
        Due.is("again()", due.names.count(9), 0);
        Due.is("nothing is left", due.names.undo(), NONE);
        due.names.says(0, 1);
        due.people("1111");
        Due.is("people()", due.names.count(9), 0);
        Due.is("nothing is left", due.names.undo(), NONE);
        Due.is("what was said stays", due.names.name(1, 0), 0);
    }

    private static void acts() {
        Edge.of(9, "One SAYS a NAME: its HOLDER so far.", ActsEdgesTest::saysHolderSoFar);
        Edge.of(9, "-2: he HOLDS it; -3: he CAN'T; NONE: none such (these in that order, NONE first).", ActsEdgesTest::saysCant);
        Edge.of(10, "signs by it for n (1 .. 99)", ActsEdgesTest::signsFrom1To99);
        Edge.of(10, "-2: it is his own; -3: there is not so much, or his would be above 99; NONE: others.",
            ActsEdgesTest::signsCant);
        Edge.of(11, "One goes to a PLACE (0 .. 9): how FAR it is.", ActsEdgesTest::movesTo0And9);
        Edge.of(11, "-2: he is there; NONE: others.", ActsEdgesTest::movesCant);
        Edge.of(12, "he SAYS each that he CAN then: how many.", ActsEdgesTest::callsCan);
        Edge.of(12, "-2: he CAN SAY none; NONE: none such.", ActsEdgesTest::callsCant);
        Edge.of(13, "n DAYS (0 .. 60): NAMES that are HELD by whose they are then (bits); the ROW: SAID more in these (as it grew)",
            ActsEdgesTest::daysFrom0To60);
        Edge.of(13, "Refused: another n.", ActsEdgesTest::otherDays);
        Edge.of(14, "(an empty one: nothing)", ActsEdgesTest::emptyWeek);
        Edge.of(14, "till one can't be (it answers below 0): how many were done", ActsEdgesTest::weekTillOneCant);
        Edge.of(14, "the ROW: 1 if one could not be, else 0; SAID then.", ActsEdgesTest::weekDone);
        Edge.of(14, "-1 - p: the sign at p can't stand there", ActsEdgesTest::weekSigns);
        Edge.of(14, "(as people(); 60 signs); nothing is done then.", ActsEdgesTest::weekOf60);
    }

    private static void undone() {
        Edge.of(15, "of 12 that are kept, the latest ones", ActsEdgesTest::undoTwelve);
        Edge.of(15, "such as were done", ActsEdgesTest::undoOnesDone);
        Edge.of(15, "days() of 1 and more", ActsEdgesTest::undoDays);
        Edge.of(15, "week() of which one ACT was done, as one", ActsEdgesTest::undoWeek);
        Edge.of(15, "PLACES, PURSES, HOLDERS, AGES, DAY, SAID are as ahead of it", ActsEdgesTest::undoneAsAhead);
        Edge.of(15, "how many are left that can be. Refused: none.", ActsEdgesTest::nothingToUndo);
        Edge.of(15, "(people() and again() forget them, if they are not refused; an empty people() does not.)",
            ActsEdgesTest::forgotten);
    }

    public static void main(String[] args) {
        acts();
        undone();
        Edge.ends(9, 15);
    }
}
