/** Promises 9 to 15: says, signs, moves, calls, days, week, undo. */
public final class ActsTest {
    private static final String FOUR = "0510;1599;2501;9520";

    private static void says() {
        Due due = Due.of(FOUR, "");
        Due.is("0 says 1", due.names.says(0, 1), 1);
        Due.is("its HOLDER", due.names.name(1, 0), 0);
        Due.is("SAID", due.names.count(2), 1);
        Due.is("2 says 1, of whom 0 had it", due.names.says(2, 1), 0);
        Due.is("2 holds it", due.names.says(2, 1), -2);
        Due.is("3 can't", due.names.says(3, 1), -3);
        Due.is("none such", due.names.says(4, 1), -1);
        Due.is("none such", due.names.says(-1, 1), -1);
        Due.is("no such NAME", due.names.says(1, 4), -1);
        Due.is("no such NAME", due.names.says(1, -1), -1);
        Due.is("refused ones are not SAID", due.names.count(2), 2);
        due.rule("0-1");
        Due.is("he HOLDS it ahead of he CAN'T", due.names.says(2, 1), -2);
        due.rule("9");
        due.names.days(1);
        Due.is("AGE of what came home", due.names.name(1, 1), 1);
        due.names.says(3, 1);
        Due.is("AGE of what was said", due.names.name(1, 1), 0);
        Due.is("AGES of others", due.names.count(5), 3);
    }

    private static void signs() {
        Due due = Due.of("0510;1598;2503", "9");
        Due.is("his own", due.names.signs(0, 1), -2);
        due.names.says(2, 1);
        due.names.says(1, 0);
        Due.is("2 signs for 90 of 1", due.names.signs(1, 90), 93);
        Due.is("1 has less", due.names.one(1, 2), 8);
        Due.is("his would be 100", due.names.signs(1, 7), -3);
        Due.is("his is 99", due.names.signs(1, 6), 99);
        Due.is("0 has no 11", due.names.signs(0, 11), -3);
        Due.is("0 has 10", due.names.signs(0, 10), 12);
        Due.is("0 has none", due.names.signs(0, 1), -3);
        for (int n : new int[] {0, -1, 100, Integer.MIN_VALUE, Integer.MAX_VALUE}) {
            Due.is("n " + n, due.names.signs(0, n), -1);
            Due.is("n " + n + " of his own", due.names.signs(2, n), -1);
        }
        Due.is("no such NAME", due.names.signs(3, 1), -1);
        Due.is("no such NAME", due.names.signs(-1, 1), -1);
        Due.is("PURSES together are as they were", due.names.count(4), 111);
        due.names.sheet(2, 2, 0, 99);
        due.names.says(0, 1);
        Due.is("for 99", due.names.signs(1, 99), 99);
    }

    private static void moves() {
        Due due = Due.of(FOUR, "");
        Due.is("0 to 9", due.names.moves(0, 9), 9);
        Due.is("0 is there", due.names.moves(0, 9), -2);
        Due.is("0 to 4", due.names.moves(0, 4), 5);
        Due.is("his PLACE", due.names.one(0, 0), 4);
        Due.is("no such PLACE", due.names.moves(0, 10), -1);
        Due.is("no such PLACE", due.names.moves(0, -1), -1);
        Due.is("none such", due.names.moves(4, 1), -1);
        Due.is("none such", due.names.moves(-1, 1), -1);
    }

    private static void calls() {
        Due due = Due.of(FOUR, "3-h");
        Due.is("he says one, two, three, and HOLDS four", due.names.calls(0), 3);
        Due.is("NAMES of 0", due.names.one(0, 3), 15);
        Due.is("he CAN SAY none", due.names.calls(0), -2);
        due.rule("1-h");
        Due.is("as it is then: 3 says two and no more", due.names.calls(3), 2);
        Due.is("NAMES of 3 are the first", due.names.one(3, 3), 3);
        Due.is("SAID", due.names.count(2), 5);
        Due.is("none such", due.names.calls(4), -1);
        Due.is("none such", due.names.calls(-1), -1);
        Due.is("what was done", due.names.count(9), 2);
        due.rule("o-1");
        Due.is("one alone", due.names.calls(1), 1);
    }

    private static void daysSayBack() {
        // 2 HOLDS the NAME of 1, 0 that of 2: who HOLDS nothing CAN SAY, so that 1 sets 2 free for his own
        Due due = Due.of("0510;1520;2530", "9");
        due.names.says(2, 1);
        due.names.says(0, 2);
        due.rule("0-h");
        Due.is("as all is then", due.names.days(1), 7);
        due.row("two were said", 2, 60);
        Due.is("AGES", due.names.count(5), 3);
        Due.is("none was away, none is said", due.names.days(2), 7);
        due.row("none was said", 0, 60);
        Due.is("DAY", due.names.count(1), 3);
        Due.is("a silent 0 days", due.names.days(0), 7);
        due.row("0 days", 0, 60);
        Due.is("0 days can't be undone", due.names.count(9), 4);
        Due.is("-1 days", due.names.days(-1), -1);
        Due.is("61 days", due.names.days(61), -1);
        Due.is("60 days", due.names.days(60), 7);
        Due.is("DAY", due.names.count(1), 63);
        due.names.days(60);
        Due.is("AGE is 99 at most", due.names.name(0, 1), 99);
        Due.is("DAY goes on", due.names.count(1), 123);
    }

    private static void daysRob() {
        // by NAMES: what 0 loses to 1 goes on to 2 on the same day
        Due due = Due.of("0001;0000;0000", "9");
        due.names.says(1, 0);
        due.names.says(2, 1);
        due.rule("0-1");
        Due.is("none is home but 2", due.names.days(1), 4);
        Due.is("PURSE of 0", due.names.one(0, 2), 0);
        Due.is("PURSE of 1", due.names.one(1, 2), 0);
        Due.is("PURSE of 2", due.names.one(2, 2), 1);
        due = Due.of("0005;0098;0000", "9");
        due.names.says(1, 0);
        due.rule("0-1");
        due.names.days(3);
        Due.is("a full PURSE takes no more", due.names.one(1, 2), 99);
        Due.is("and none goes", due.names.one(0, 2), 4);
        due.row("none said", 0, 103);
    }

    private static void daysOfTheWeek() {
        Due due = Due.of("0001;0000", "9");
        due.names.says(1, 0);
        due.rule("n-6");
        Due.is("not ahead of DAY 6", due.names.days(6), 2);
        Due.is("on DAY 6", due.names.days(1), 3);
        due.row("said", 1, 1);
    }

    private static void week() {
        Due due = Due.of("0510;1520;9530", "");
        Due.is("an empty week", due.week(""), 0);
        due.row("an empty week", 0, 0);
        Due.is("an empty week can't be undone", due.names.count(9), 0);
        // 1 says 0; a day: 0 says it back; 1 says 0; 1 signs by it for 7; 2 to 5; 2 calls (0 by 1 at 1, 1 at 1)
        Due.is("a week", due.week("s10n1s10g007m25c2"), 6);
        due.row("a week", 0, 5);
        Due.is("PURSE of 1", due.names.one(1, 2), 27);
        Due.is("NAMES of 2", due.names.one(2, 3), 7);
        Due.is("one thing can be undone", due.names.count(9), 1);
        Due.is("a week that was done empties THE TEXT", due.names.count(11), 0);
        Due.is("till one can't be", due.week("n1m25n9"), 1);
        due.row("till one can't be", 1, 7);
        Due.is("nothing behind it is done", due.names.count(1), 2);
        Due.is("days of none are an ACT", due.week("n0"), 1);
        Due.is("and can be undone", due.names.count(9), 3);
        String[] cant = {"s33", "s00", "g011", "g000", "m20m25", "m55", "c5", "g900"};
        for (String act : cant) {
            int done = due.week(act);
            Due.is(act + " can't be", done, act.equals("m20m25") ? 2 : 0);
            due.row(act, act.equals("m20m25") ? 0 : 1, 7);
        }
        Due.is("a week in which none was done can't be undone", due.names.count(9), 4);
    }

    private static void weekSigns() {
        Due due = Due.of("0510;1520;9530", "");
        String[] texts = {"x", "n", "s0", "s", "g00", "g", "n1;", "n1 n1", "n12", "s0n1", "m0x", "cc", "S00", "1"};
        int[] wrong = {0, 1, 2, 1, 3, 1, 2, 2, 2, 2, 2, 1, 0, 0};
        for (int i = 0; i < texts.length; i++) {
            Due.is("week " + texts[i], due.week(texts[i]), -1 - wrong[i]);
            Due.is("week " + texts[i] + " empties THE TEXT", due.names.count(11), 0);
        }
        due.row("no week, no ROW");
        String sixty = "n1".repeat(30);
        Due.is("60 signs", due.week(sixty), 30);
        Due.is("61 signs", due.week(sixty + "n"), -61);
        Due.is("62 signs", due.week(sixty + "n1"), -61);
        Due.is("61 signs, the last wrong", due.week(sixty + "x"), -61);
        Due.is("60 signs that could go on", due.week("s10" + "n1".repeat(28) + "n"), -61);
        Due.is("60 signs that could go on, and more", due.week("s10" + "n1".repeat(28) + "n1"), -61);
        Due.is("wrong ahead of 60", due.week("s10" + "n1".repeat(20) + "nn" + "n1".repeat(18)), -45);
        Due.is("nothing of them was done", due.names.count(1), 30);
        due.row("ROW of the last week", 0, 0);
    }

    private static void undo() {
        Due due = Due.of(FOUR, "9");
        Due.is("nothing to undo", due.names.undo(), -1);
        due.names.says(0, 1);
        due.names.signs(1, 9);
        due.names.moves(0, 7);
        due.names.calls(3);
        due.names.days(2);
        due.week("s01m01");
        Due.is("six can be undone", due.names.count(9), 6);
        due.names.says(9, 9);
        due.names.signs(0, 0);
        due.names.moves(1, 1);
        due.names.calls(9);
        due.names.days(0);
        due.week("s99");
        due.week("x");
        Due.is("others were not done", due.names.count(9), 6);
        Due.is("undo the week as one", due.names.undo(), 5);
        Due.is("0 is where he was", due.names.one(0, 0), 7);
        Due.is("1 has his NAME", due.names.name(1, 0), 1);
        Due.is("SAID ahead of it", due.names.count(2), 7);
        Due.is("undo the days", due.names.undo(), 4);
        Due.is("DAY", due.names.count(1), 0);
        Due.is("AGES", due.names.count(5), 0);
        Due.is("SAID", due.names.count(2), 4);
        Due.is("all are HELD by 3", due.names.one(3, 3), 15);
        Due.is("undo the roll call", due.names.undo(), 3);
        Due.is("NAMES of 0", due.names.one(0, 3), 3);
        Due.is("undo the move", due.names.undo(), 2);
        Due.is("PLACE of 0", due.names.one(0, 0), 0);
        Due.is("undo the deed", due.names.undo(), 1);
        Due.is("PURSE of 1", due.names.one(1, 2), 99);
        Due.is("PURSE of 0", due.names.one(0, 2), 10);
        Due.is("undo the saying", due.names.undo(), 0);
        Due.is("all are home", due.names.count(3), 15);
        Due.is("SAID", due.names.count(2), 0);
        Due.is("none is left", due.names.undo(), -1);
    }

    private static void undoTwelve() {
        Due due = Due.of(FOUR, "");
        for (int i = 1; i <= 30; i++) {
            due.names.moves(0, i % 10);
            due.names.moves(0, i % 10);
        }
        Due.is("12 are kept", due.names.count(9), 12);
        for (int i = 11; i >= 0; i--) {
            Due.is("undo", due.names.undo(), i);
            Due.is("PLACE", due.names.one(0, 0), (18 + i) % 10);
        }
        Due.is("no thirteenth", due.names.undo(), -1);
        due.names.moves(0, 3);
        due.names.sheet(2, 4, 50, 0);
        due.rule("0-1");
        Due.is("undo ahead of the sheet", due.names.undo(), 0);
        Due.is("PURSES as ahead of it", due.names.count(4), 130);
        Due.is("THE RULE stays", due.names.one(0, 4), 0);
    }

    public static void main(String[] args) {
        says();
        signs();
        moves();
        calls();
        daysSayBack();
        daysRob();
        daysOfTheWeek();
        week();
        weekSigns();
        undo();
        undoTwelve();
        Due.ends();
    }
}
