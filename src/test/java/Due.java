import java.util.NoSuchElementException;

/** One object under test, and what its calls owe: every wrong answer is printed, and the test then ends with 1. */
final class Due {
    /** Stands for a call that throws NoSuchElementException. */
    static final String THROWS = "throws.NoSuchElementException";
    private static int wrong = 0;
    private static int asked = 0;
    /** Ahead of each wrong answer: what is being tested. */
    private static String within = "";
    final NamesInMouths names = new NamesInMouths();

    /** A call that may throw. */
    interface Call {
        long answer();
    }

    static void within(String what) {
        within = what.isEmpty() ? "" : what + ": ";
    }

    static int asked() {
        return asked;
    }

    static void is(String what, long got, long due) {
        asked++;
        if (got != due) {
            wrong++;
            System.out.println(within + what + " answered " + got + ", due is " + due);
        }
    }

    static void is(String what, boolean got, boolean due) {
        is(what, got ? 1 : 0, due ? 1 : 0);
    }

    static void throwsNoSuch(String what, Call call) {
        asked++;
        try {
            long got = call.answer();
            wrong++;
            System.out.println(within + what + " answered " + got + ", due is " + THROWS);
        } catch (NoSuchElementException e) {
            return;
        }
    }

    /** The ROW is these numbers and no others. */
    void row(String what, long... due) {
        is(what + ": numbers of the ROW", names.count(10), due.length);
        for (int i = 0; i < due.length && i < names.count(10); i++) {
            is(what + ": row(" + i + ")", names.row(i), due[i]);
        }
        throwsNoSuch(what + ": row behind the last", () -> names.row(names.count(10)));
    }

    /** THE TEXT is this one, whatever it was. */
    void text(String text) {
        names.end(0);
        for (int i = 0; i < text.length(); i += 4) {
            int four = 0;
            for (int j = i; j < i + 4; j++) {
                four = four << 8 | (j < text.length() ? text.charAt(j) : 0);
            }
            names.sign(four);
        }
        names.end(text.length());
    }

    int people(String text) {
        text(text);
        return names.people();
    }

    int rule(String text) {
        text(text);
        return names.rule();
    }

    int week(String text) {
        text(text);
        return names.week();
    }

    int law(String text) {
        text(text);
        return names.law();
    }

    /** All that can be asked for without telling anything, but for THE TEXT and the ROW. */
    String state() {
        StringBuilder state = new StringBuilder();
        for (int what = 0; what <= 9; what++) {
            state.append(names.count(what)).append(' ');
        }
        for (int one = 0; one < names.count(0); one++) {
            for (int what = 0; what <= 4; what++) {
                state.append(names.one(one, what)).append(' ');
            }
            state.append(names.name(one, 0)).append(' ').append(names.name(one, 1)).append(' ');
        }
        return state.toString();
    }

    /** The ROW as a text. */
    String told() {
        StringBuilder told = new StringBuilder();
        for (int i = 0; i < names.count(10); i++) {
            told.append(names.row(i)).append(' ');
        }
        return told.toString();
    }

    /** An object with these PEOPLE and this RULE. */
    static Due of(String people, String rule) {
        Due due = new Due();
        due.people(people);
        due.rule(rule);
        return due;
    }

    /** Ends the test. */
    static void ends() {
        System.out.println(asked + " answers looked at, " + wrong + " wrong");
        if (wrong != 0 || asked == 0) {
            System.exit(1);
        }
    }
}
