import java.math.BigInteger;

/** The edges that promises 41 to 45 name, each by the document's own words. */
public final class PlaysEdgesTest {
    private static final int NONE = NamesInMouths.NONE;
    private static final int LEAST = Integer.MIN_VALUE;
    private static final int MOST = Integer.MAX_VALUE;
    private static final String THREE = "0110;2305;9120";
    private static final String SEVEN = "0910;0920;0930;0940;0950;0960;0970";

    private static void walk(Due due, int x, int n, int p, int y, long upper, long lower) {
        String what = "walks(" + x + ", " + n + ", " + p + ", " + y + ")";
        Due.is(what, due.names.walks(x, n, p, y), 0);
        due.row(what, upper, lower);
    }

    private static void walkFrom0To9() {
        Due due = new Due();
        walk(due, 0, 0, 0, 0, 1, 1);
        walk(due, 9, 0, 10, 9, 1, 1);
        walk(due, 0, 9, 10, 9, 1, 1);
        walk(due, 9, 9, 0, 0, 1, 1);
        walk(due, 0, 8, 10, 9, 0, 1);
        walk(due, 4, 1, 1, 5, 1, 10);
        walk(due, 4, 1, 1, 3, 9, 10);
        walk(due, 4, 1, 9, 5, 9, 10);
        walk(due, 4, 12, 1, 4, 28993059L, 50000000000L);
        walk(due, 0, 12, 1, 9, 43, 25000000000L);
    }

    private static void walkEnds() {
        Due due = new Due();
        walk(due, 0, 1, 0, 0, 1, 1);
        walk(due, 0, 12, 0, 0, 1, 1);
        walk(due, 9, 1, 10, 9, 1, 1);
        walk(due, 9, 12, 10, 9, 1, 1);
        walk(due, 0, 1, 3, 0, 7, 10);
        walk(due, 9, 1, 3, 9, 3, 10);
        walk(due, 1, 2, 5, 0, 1, 4);
        walk(due, 8, 2, 5, 9, 1, 4);
    }

    private static void walkAnywhere() {
        Due due = new Due();
        // all PLACES together are 1
        for (int p = 0; p <= 10; p++) {
            BigInteger sum = BigInteger.ZERO;
            BigInteger all = BigInteger.TEN.pow(12);
            for (int y = 0; y <= 9; y++) {
                due.names.walks(3, 12, p, y);
                BigInteger share = all.divide(BigInteger.valueOf(due.names.row(1)));
                sum = sum.add(share.multiply(BigInteger.valueOf(due.names.row(0))));
            }
            Due.is("all together by " + p + " tenths", sum.equals(all), true);
        }
    }

    private static void walkNot() {
        Due due = new Due();
        due.names.days(0);
        for (int beside : new int[] {-1, LEAST, MOST}) {
            Due.is("x " + beside, due.names.walks(beside, 0, 0, 0), NONE);
            Due.is("n " + beside, due.names.walks(0, beside, 0, 0), NONE);
            Due.is("p " + beside, due.names.walks(0, 0, beside, 0), NONE);
            Due.is("y " + beside, due.names.walks(0, 0, 0, beside), NONE);
        }
        Due.is("x 10", due.names.walks(10, 0, 0, 0), NONE);
        Due.is("n 13", due.names.walks(0, 13, 0, 0), NONE);
        Due.is("p 11", due.names.walks(0, 0, 11, 0), NONE);
        Due.is("y 10", due.names.walks(0, 0, 0, 10), NONE);
        due.row("nothing is told", 0, 0);
        walk(due, 9, 12, 10, 9, 1, 1);
    }

    private static void hushed(Due due, int a, int b, int wins, long... move) {
        Due.is("hush(" + a + ", " + b + ")", due.names.hush(a, b), wins);
        due.row("hush(" + a + ", " + b + ")", move);
    }

    private static void hushTo20() {
        // by all games from the least on, in another object for each first heap
        boolean[][] won = new boolean[21][21];
        for (int a = 0; a <= 20; a++) {
            Due due = new Due();
            for (int b = 0; b <= 20; b++) {
                long first = 0;
                long second = 0;
                for (int k = Math.min(a, b); k >= 1; k--) {
                    first = won[a - k][b] ? first : k;
                    second = won[a][b - k] ? second : k;
                }
                won[a][b] = a == 0 || b == 0 || first + second > 0;
                long[] move = second > 0 ? new long[] {0, second} : first > 0 ? new long[] {first, 0} : new long[0];
                hushed(due, a, b, won[a][b] ? 1 : 0, move);
            }
        }
    }

    private static void hushTakes() {
        Due due = new Due();
        // 1 of 3 beside 1 leaves 2 and 1, by which the other one wins; 2 of 3 can't be taken
        hushed(due, 3, 1, 0);
        hushed(due, 1, 3, 0);
        // 2 of 4 beside 2 would leave 2 and 2
        hushed(due, 4, 2, 1, 2, 0);
        hushed(due, 2, 4, 1, 0, 2);
    }

    private static void hushCant() {
        Due due = new Due();
        for (int n = 0; n <= 20; n++) {
            due.names.rests(2);
            hushed(due, 0, n, 1);
            due.names.rests(2);
            hushed(due, n, 0, 1);
        }
    }

    private static void hushLeastMove() {
        Due due = new Due();
        hushed(due, 1, 1, 0);
        hushed(due, 2, 2, 0);
        hushed(due, 1, 2, 1, 0, 1);
        hushed(due, 2, 1, 1, 1, 0);
        // 2 of either: of the second one is less
        hushed(due, 3, 3, 1, 0, 2);
        hushed(due, 20, 20, 1, 0, 17);
    }

    private static void hushNot() {
        Due due = new Due();
        due.names.days(0);
        for (int beside : new int[] {-1, 21, LEAST, MOST}) {
            Due.is("hush(" + beside + ", 0)", due.names.hush(beside, 0), NONE);
            Due.is("hush(0, " + beside + ")", due.names.hush(0, beside), NONE);
        }
        due.row("nothing is told", 0, 0);
    }

    private static int has(int his, int others, int worth) {
        int has = (his > others ? worth : 0) - his;
        return his + others > 6 ? has - 2 * (his + others - 6) : has;
    }

    private static boolean rest(int x, int y, int worth) {
        for (int other = 0; other <= 9; other++) {
            if (has(other, y, worth) > has(x, y, worth) || has(other, x, worth) > has(y, x, worth)) {
                return false;
            }
        }
        return true;
    }

    private static void restsOf0To20() {
        Due due = new Due();
        for (int worth = 0; worth <= 20; worth++) {
            int rests = 0;
            for (int pair = 0; pair <= 99; pair++) {
                rests += rest(pair / 10, pair % 10, worth) ? 1 : 0;
            }
            Due.is("worth " + worth, due.names.rests(worth), rests);
        }
        Due.is("worth 0, behind 20", due.names.rests(0), 1);
    }

    private static void restsLeast() {
        Due due = new Due();
        Due.is("worth 0", due.names.rests(0), 1);
        due.row("neither says it", 0, 0);
        Due.is("worth 1: 0 0, 0 1, 1 0", due.names.rests(1), 3);
        due.row("the least", 0, 0);
        Due.is("worth 2: 0 1, 1 0", due.names.rests(2), 2);
        due.row("the least", 0, 1);
        Due.is("worth 3: none", due.names.rests(3), 0);
        due.row("nothing");
        due.names.rests(0);
        Due.is("worth 20: none", due.names.rests(20), 0);
        due.row("nothing");
    }

    private static void restsNot() {
        Due due = new Due();
        due.names.days(0);
        for (int worth : new int[] {-1, 21, LEAST, MOST}) {
            Due.is("rests(" + worth + ")", due.names.rests(worth), NONE);
        }
        due.row("nothing is told", 0, 0);
    }

    private static void emptyLaw() {
        Due due = Due.of(THREE, "9");
        Due.is("v-f", due.law(""), -5);
        due.row("v-f", 1, 6, 0, 1, 0);
        due.rule("");
        Due.is("v-f, as THE RULE is", due.law(""), 0);
        due.row("v-f, as THE RULE is", 1, 1, 0, 1, 0);
        Due.is("THE RULE stays", due.names.one(1, 4), 1);
    }

    private static void lawBelow0() {
        Due due = Due.of(SEVEN, "");
        Due.is("42 less", due.law("0-1"), -42);
        due.row("none", 0, 42, 0, 0, 0, 0, 0, 0, 0);
        due.rule("0-1");
        Due.is("42 more", due.law("0"), 42);
        due.row("all", 42, 0, 126, 125, 123, 119, 111, 95, 63);
        Due.is("THE RULE stays", due.names.one(0, 4), 0);
        due = new Due();
        Due.is("nobody", due.law("9"), 0);
        due.row("nobody", 0, 0);
    }

    private static void lawCannotStand() {
        Due due = Due.of(THREE, "");
        due.names.line();
        String forty = "1" + "+1".repeat(19) + "1";
        String[] texts = {"x", "v+", "v<u<f", "(v", "(((((v", "1000", forty + "1", forty + "x", "1+".repeat(20) + "1",
            forty.substring(0, 39) + "x1"};
        int[] wrong = {0, 2, 3, 2, 4, 3, 40, 40, 40, 39};
        for (int i = 0; i < texts.length; i++) {
            Due.is("law " + texts[i], due.law(texts[i]), -10000 - wrong[i]);
        }
        due.row("nothing is told", 0, 1, 2);
        Due.is("THE RULE stays", due.names.one(1, 4), 1);
        Due.is("40 signs", due.law(forty), 5);
    }

    /** The years by calls of another object; how it then is. */
    private static void drawn(Due due, Due twin, int seed, int n) {
        long r = seed;
        int people = twin.names.count(0);
        int said = twin.names.count(2);
        for (int i = 0; i < n; i++) {
            r = r * 1103515245L + 12345L & 0xFFFFFFFFL;
            int kind = (int) (r / 65536 % 4);
            if (kind == 0) {
                twin.names.days(1);
            } else if (people > 0) {
                r = r * 1103515245L + 12345L & 0xFFFFFFFFL;
                int one = (int) (r / 65536 % people);
                r = r * 1103515245L + 12345L & 0xFFFFFFFFL;
                int to = (int) (r / 65536 % (kind == 3 ? 10 : people));
                int done = kind == 3 ? twin.names.moves(one, to) : twin.names.says(one, to);
                Due.is("one and what he does are there", done == NONE, false);
            }
        }
        Due.is("years(" + seed + ", " + n + ")", due.names.years(seed, n), twin.names.count(3));
        due.row("years(" + seed + ", " + n + ")", twin.names.count(2) - said, twin.names.count(4));
    }

    private static void yearsOf1To60() {
        for (int n = 1; n <= 60; n++) {
            drawn(Due.of(THREE, ""), Due.of(THREE, ""), 7 * n, n);
        }
    }

    private static void yearsThatCant() {
        // nobody CAN SAY one: all says() are left out, moves() to where one is, too
        Due due = Due.of(SEVEN, "0-1");
        Due.is("nothing is SAID", due.names.years(3, 60), 127);
        due.row("nothing is SAID", 0, 280);
        // all CAN: he who HOLDS it does not
        drawn(Due.of("0910;0920", "9"), Due.of("0910;0920", "9"), 11, 60);
    }

    private static void yearsOfNobody() {
        for (int seed : new int[] {0, 1, -1, LEAST, MOST}) {
            Due due = new Due();
            Due.is("nobody", due.names.years(seed, 60), 0);
            due.row("nobody", 0, 0);
            Due.is("no DAY", due.names.count(1), 0);
        }
    }

    private static void yearsNot() {
        Due due = Due.of(THREE, "");
        due.names.line();
        for (int n : new int[] {0, -1, 61, LEAST, MOST}) {
            Due.is("years(1, " + n + ")", due.names.years(1, n), NONE);
        }
        due.row("nothing is told", 0, 1, 2);
    }

    private static void drawsWrap() {
        for (int seed : new int[] {0, 1, -1, 65535, 65536, 1 << 30, LEAST, MOST, LEAST + 1, 1103515245, -12345}) {
            drawn(Due.of("0510;1599;2501;9520;4307;6150;8333", ""), Due.of("0510;1599;2501;9520;4307;6150;8333", ""), seed, 60);
        }
    }

    private static void walksAndHushes() {
        Edge.of(41, "A carrier starts at PLACE x (0 .. 9); n times (0 .. 12) he goes one on (x more) by p tenths (0 .. 10), else one back",
            PlaysEdgesTest::walkFrom0To9);
        Edge.of(41, "at an end of the dyke he stays, where he can't go", PlaysEdgesTest::walkEnds);
        Edge.of(41, "how likely he is at PLACE y (0 .. 9) then: 0; the ROW: the fraction.", PlaysEdgesTest::walkAnywhere);
        Edge.of(41, "NONE: others.", PlaysEdgesTest::walkNot);
        Edge.of(42, "with a and b (0 .. 20) breaths left", PlaysEdgesTest::hushTo20);
        Edge.of(42, "takes 1 or more of one heap, but no more than are in the other one", PlaysEdgesTest::hushTakes);
        Edge.of(42, "who can't has won: 1 if the first one wins by best play (also if he can't), else 0", PlaysEdgesTest::hushCant);
        Edge.of(42, "the least move by which he does (of the first heap, of the second; nothing without one)",
            PlaysEdgesTest::hushLeastMove);
        Edge.of(42, "NONE: others.", PlaysEdgesTest::hushNot);
    }

    private static void restsAndYears() {
        Edge.of(43, "x and y (0 .. 9) times; who says it oftener has it, which is worth v (0 .. 20), and by as many times as both"
            + " say it together above 6 each has 2 less", PlaysEdgesTest::restsOf0To20);
        Edge.of(43, "the ROW: the least (nothing without).", PlaysEdgesTest::restsLeast);
        Edge.of(43, "NONE: another v.", PlaysEdgesTest::restsNot);
        Edge.of(44, "(an empty one: none)", PlaysEdgesTest::emptyLaw);
        Edge.of(44, "by it, less by THE RULE (below 0, too)", PlaysEdgesTest::lawBelow0);
        Edge.of(44, "-10000 - p: the sign at p can't stand there (as rule()).", PlaysEdgesTest::lawCannotStand);
        Edge.of(45, "n times (1 .. 60)", PlaysEdgesTest::yearsOf1To60);
        Edge.of(45, "each if it can be", PlaysEdgesTest::yearsThatCant);
        Edge.of(45, "1 .. 3: nothing, no DRAWS more, without PEOPLE", PlaysEdgesTest::yearsOfNobody);
        Edge.of(45, "NONE: another n.", PlaysEdgesTest::yearsNot);
        Edge.of(45, "(as ints; R is seed at first), (R without sign, by 65536) % n.", PlaysEdgesTest::drawsWrap);
    }

    public static void main(String[] args) {
        walksAndHushes();
        restsAndYears();
        Edge.ends(41, 45);
    }
}
