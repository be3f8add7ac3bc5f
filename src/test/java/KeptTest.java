/** Promises 46 to 49: keep, again, count, row. */
public final class KeptTest {
    private static void keepAndAgain() {
        Due due = Due.of("0510;1520;2530", "");
        Due.is("nothing kept", due.names.again(0), false);
        due.names.says(1, 0);
        due.names.days(0);
        Due.is("keep(0)", due.names.keep(0), true);
        due.names.moves(2, 9);
        due.names.signs(0, 4);
        due.rule("0-1");
        due.names.days(3);
        Due.is("keep(1)", due.names.keep(1), true);
        Due.is("keep(2)", due.names.keep(2), false);
        Due.is("keep(-1)", due.names.keep(-1), false);
        Due.is("four can be undone", due.names.count(9), 4);
        Due.is("again(2)", due.names.again(2), false);
        Due.is("again(-1)", due.names.again(-1), false);
        Due.is("a refused again() forgets nothing", due.names.count(9), 4);
        Due.is("again(0)", due.names.again(0), true);
        Due.is("again() forgets what can be undone", due.names.count(9), 0);
        Due.is("PLACE", due.names.one(2, 0), 2);
        Due.is("PURSE", due.names.one(1, 2), 20);
        Due.is("HOLDER", due.names.name(0, 0), 1);
        Due.is("AGES", due.names.count(5), 0);
        Due.is("DAY", due.names.count(1), 0);
        Due.is("SAID", due.names.count(2), 1);
        Due.is("THE RULE stays", due.names.one(2, 4), 0);
        Due.is("again(1)", due.names.again(1), true);
        Due.is("PLACE", due.names.one(2, 0), 9);
        Due.is("PURSE", due.names.one(1, 2), 27);
        Due.is("DAY", due.names.count(1), 3);
        Due.is("AGES", due.names.count(5), 9);
        Due.is("again(0) once more", due.names.again(0), true);
        Due.is("DAY", due.names.count(1), 0);
        due.names.moves(0, 9);
        due.names.keep(0);
        due.names.moves(0, 8);
        due.names.again(0);
        Due.is("what was kept last", due.names.one(0, 0), 9);
    }

    private static void peopleCame() {
        Due due = Due.of("0510;1520", "");
        due.names.keep(0);
        due.names.keep(1);
        due.people("");
        due.people("1");
        Due.is("none came", due.names.again(0), true);
        due.people("9999");
        Due.is("one came", due.names.again(0), false);
        Due.is("one came", due.names.again(1), false);
        due.names.keep(1);
        due.names.moves(2, 1);
        Due.is("kept since", due.names.again(1), true);
        Due.is("PLACE", due.names.one(2, 0), 9);
        Due.is("not kept since", due.names.again(0), false);
        due = new Due();
        Due.is("nobody is kept too", due.names.keep(0), true);
        due.names.days(2);
        Due.is("and comes again", due.names.again(0), true);
        Due.is("DAY", due.names.count(1), 0);
    }

    private static void count() {
        Due due = Due.of("0510;1520;2530", "");
        due.names.says(1, 0);
        due.rule("0-1");
        due.names.days(2);
        due.names.heard(0, 0);
        due.names.heard(0, 1);
        due.names.saw(0, 0, 0);
        due.names.sign(0);
        int[] counts = {3, 2, 1, 6, 60, 6, 15, 2, 1, 2, 2, 4};
        for (int what = 0; what < counts.length; what++) {
            Due.is("count(" + what + ")", due.names.count(what), counts[what]);
        }
        Due.is("count(12)", due.names.count(12), -1);
        Due.is("count(-1)", due.names.count(-1), -1);
    }

    private static void row() {
        Due due = Due.of("0510;1520;2530", "");
        due.row("none yet");
        due.names.line();
        due.row("line", 0, 1, 2);
        due.names.says(1, 0);
        due.names.count(0);
        due.names.undo();
        due.names.criers(99);
        due.row("others leave it", 0, 1, 2);
        due.names.robs(0);
        due.row("the last alone", -1);
        Due.throwsNoSuch("row(-1)", () -> due.names.row(-1));
        Due.throwsNoSuch("row(least)", () -> due.names.row(Integer.MIN_VALUE));
        Due.throwsNoSuch("row(most)", () -> due.names.row(Integer.MAX_VALUE));
        Due.throwsNoSuch("row(2), as it was", () -> due.names.row(2));
    }

    public static void main(String[] args) {
        keepAndAgain();
        peopleCame();
        count();
        row();
        Due.ends();
    }
}
