/** Promises 41 to 45: walks, hush, rests, law, years. */
public final class PlaysTest {
    private static void walk(Due due, int x, int n, int p, int y, long upper, long lower) {
        String what = "walks(" + x + ", " + n + ", " + p + ", " + y + ")";
        Due.is(what, due.names.walks(x, n, p, y), 0);
        due.row(what, upper, lower);
    }

    private static void walks() {
        Due due = new Due();
        walk(due, 0, 1, 5, 1, 1, 2);
        walk(due, 0, 1, 5, 0, 1, 2);
        walk(due, 0, 2, 5, 0, 1, 2);
        walk(due, 0, 2, 5, 1, 1, 4);
        walk(due, 0, 2, 3, 0, 7, 10);
        walk(due, 9, 2, 3, 9, 3, 10);
        walk(due, 4, 4, 3, 4, 1323, 5000);
        walk(due, 5, 0, 3, 5, 1, 1);
        walk(due, 5, 0, 3, 4, 0, 1);
        walk(due, 5, 12, 10, 9, 1, 1);
        walk(due, 5, 12, 10, 8, 0, 1);
        walk(due, 5, 12, 0, 0, 1, 1);
        walk(due, 0, 12, 10, 9, 1, 1);
        walk(due, 0, 9, 1, 9, 1, 1000000000L);
        walk(due, 9, 12, 1, 9, 4480439L, 50000000000L);
        int[][] wrong = {{-1, 0, 0, 0}, {10, 0, 0, 0}, {0, -1, 0, 0}, {0, 13, 0, 0}, {0, 0, -1, 0}, {0, 0, 11, 0},
            {0, 0, 0, -1}, {0, 0, 0, 10}};
        walk(due, 0, 2, 5, 1, 1, 4);
        for (int[] w : wrong) {
            Due.is("walks beside all", due.names.walks(w[0], w[1], w[2], w[3]), -1);
        }
        due.row("refused ones tell nothing", 1, 4);
    }

    private static void hushed(Due due, int a, int b, int wins, long... move) {
        Due.is("hush(" + a + ", " + b + ")", due.names.hush(a, b), wins);
        due.row("hush(" + a + ", " + b + ")", move);
    }

    private static void hush() {
        Due due = new Due();
        hushed(due, 0, 0, 1);
        hushed(due, 0, 20, 1);
        hushed(due, 20, 0, 1);
        hushed(due, 1, 1, 0);
        hushed(due, 1, 2, 1, 0, 1);
        hushed(due, 2, 1, 1, 1, 0);
        hushed(due, 2, 2, 0);
        hushed(due, 3, 1, 0);
        hushed(due, 1, 3, 0);
        hushed(due, 3, 2, 1, 0, 1);
        hushed(due, 2, 3, 1, 0, 1);
        hushed(due, 4, 1, 1, 1, 0);
        hushed(due, 3, 3, 1, 0, 2);
        hushed(due, 4, 4, 0);
        hushed(due, 20, 20, 1, 0, 17);
        hushed(due, 20, 3, 0);
        hushed(due, 19, 20, 1, 0, 19);
        hushed(due, 7, 20, 1, 4, 0);
        hushed(due, 3, 3, 1, 0, 2);
        int[][] wrong = {{-1, 0}, {0, -1}, {21, 0}, {0, 21}};
        for (int[] w : wrong) {
            Due.is("hush beside all", due.names.hush(w[0], w[1]), -1);
        }
        due.row("refused ones tell nothing", 0, 2);
    }

    private static void rests() {
        Due due = new Due();
        Due.is("worth nothing", due.names.rests(0), 1);
        due.row("worth nothing", 0, 0);
        Due.is("worth what it costs", due.names.rests(1), 3);
        due.row("worth what it costs", 0, 0);
        Due.is("worth 2: one says it once", due.names.rests(2), 2);
        due.row("worth 2", 0, 1);
        Due.is("worth 21", due.names.rests(21), -1);
        Due.is("worth -1", due.names.rests(-1), -1);
        due.row("refused ones tell nothing", 0, 1);
        // who has less says none, then who has more says one, then the other says two
        for (int v = 3; v <= 20; v++) {
            Due.is("worth " + v, due.names.rests(v), 0);
            due.row("nothing without");
        }
    }

    private static void law() {
        Due due = Due.of("0110;2305;9120", "");
        Due.is("all by 9", due.law("9"), 5);
        due.row("all by 9", 6, 1, 6, 5, 3);
        Due.is("THE RULE is as it was", due.names.one(0, 4), 0);
        Due.is("none by -1", due.law("-1"), -1);
        due.row("none by -1", 0, 1, 0, 0, 0);
        due.rule("9");
        Due.is("v-f, an empty one", due.law(""), -5);
        due.row("v-f", 1, 6, 0, 1, 0);
        Due.is("f>3", due.law("(f>3)-1"), -2);
        due.row("f>3", 4, 6, 4, 4, 3);
        due.names.says(1, 0);
        Due.is("as it is now", due.law("a-1+o"), -5);
        due.row("as it is now", 1, 6, 1, 0, 0);
        String[] texts = {"x", "v+", "(((((v", "1000", "1+".repeat(20) + "1"};
        int[] wrong = {0, 2, 4, 3, 40};
        for (int i = 0; i < texts.length; i++) {
            Due.is("law " + texts[i], due.law(texts[i]), -10000 - wrong[i]);
            Due.is("law " + texts[i] + " empties THE TEXT", due.names.count(11), 0);
        }
        due.row("refused ones tell nothing", 1, 6, 1, 0, 0);
        Due.is("nobody", new Due().law("9"), 0);
        due = Due.of("0000;0000;0000;0000;0000;0000;0000", "");
        Due.is("seven", due.law("f"), 0);
        due.row("seven", 42, 42, 126, 125, 123, 119, 111, 95, 63);
    }

    /** The years by calls of another object. */
    private static void hasYears(Due due, Due twin, int seed, int n) {
        long r = seed;
        int said = twin.names.count(2);
        int people = twin.names.count(0);
        for (int i = 0; i < n; i++) {
            r = r * 1103515245L + 12345L & 0xFFFFFFFFL;
            int kind = (int) (r / 65536 % 4);
            if (kind == 0) {
                twin.names.days(1);
            } else if (people > 0) {
                r = r * 1103515245L + 12345L & 0xFFFFFFFFL;
                int one = (int) (r / 65536 % people);
                r = r * 1103515245L + 12345L & 0xFFFFFFFFL;
                if (kind == 3) {
                    twin.names.moves(one, (int) (r / 65536 % 10));
                } else {
                    twin.names.says(one, (int) (r / 65536 % people));
                }
            }
        }
        String ahead = due.state();
        Due.is("years(" + seed + ", " + n + ")", due.names.years(seed, n), twin.names.count(3));
        due.row("years", twin.names.count(2) - said, twin.names.count(4));
        Due.is("years change nothing of " + ahead, due.state().equals(ahead), true);
    }

    private static void years() {
        for (int seed : new int[] {0, 1, 7, -1, 123456789, Integer.MIN_VALUE, Integer.MAX_VALUE}) {
            hasYears(Due.of("0510;1599;2501;9520;4307", ""), Due.of("0510;1599;2501;9520;4307", ""), seed, 60);
            hasYears(Due.of("3412;4412", ""), Due.of("3412;4412", ""), seed, 1);
            hasYears(Due.of("3412", ""), Due.of("3412", ""), seed, 60);
        }
        Due due = new Due();
        // R by 65536 of seed 1: 2, 2, 1, 3, 3, 3, 2, 3, 0 of 4, without any other DRAW
        Due.is("nobody, 9 times", due.names.years(1, 9), 0);
        due.row("nobody", 0, 0);
        Due.is("a DAY of the years is no DAY", due.names.count(1), 0);
        Due.is("0 times", due.names.years(1, 0), -1);
        Due.is("61 times", due.names.years(1, 61), -1);
        Due.is("-1 times", due.names.years(1, -1), -1);
    }

    /** Years asked for behind sayings and days: they begin where all is then, and undo() knows nothing of them. */
    private static void yearsLater() {
        Due due = Due.of("0510;1599;2501;9520;4307", "v-f+n-a");
        Due twin = Due.of("0510;1599;2501;9520;4307", "v-f+n-a");
        for (int seed = 0; seed < 4; seed++) {
            for (Due each : new Due[] {due, twin}) {
                each.names.calls(seed % 5);
                each.names.days(2);
            }
            twin.names.keep(0);
            hasYears(due, twin, seed, 20);
            Due.is("the same years again", due.names.years(seed, 20), twin.names.count(3));
            twin.names.again(0);
        }
        Due.is("what can be undone", due.names.count(9), 8);
        int day = due.names.count(1);
        due.names.years(3, 60);
        due.names.undo();
        Due.is("days(2) are undone, not the years", due.names.count(1), day - 2);
    }

    public static void main(String[] args) {
        walks();
        hush();
        rests();
        law();
        years();
        yearsLater();
        Due.ends();
    }
}
