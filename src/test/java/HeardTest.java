/** Promises 33 to 40: heard, forget, fits, asks; saw, denies, laws, tries. */
public final class HeardTest {
    private static void heard() {
        Due due = new Due();
        int[][] edges = {{0, 6}, {1, 99}, {2, 99}, {3, 9}, {4, 6}};
        int size = 0;
        for (int[] edge : edges) {
            Due.is("heard " + edge[0] + " above", due.names.heard(edge[0], edge[1] + 1), -1);
            Due.is("heard " + edge[0] + " below", due.names.heard(edge[0], -1), -1);
            Due.is("heard " + edge[0] + " most", due.names.heard(edge[0], edge[1]), ++size);
            Due.is("heard " + edge[0] + " least", due.names.heard(edge[0], 0), ++size);
        }
        Due.is("another what", due.names.heard(5, 0), -1);
        Due.is("another what", due.names.heard(-1, 0), -1);
        Due.is("an eleventh", due.names.heard(0, 1), 11);
        Due.is("a twelfth", due.names.heard(0, 1), 12);
        Due.is("no thirteenth", due.names.heard(0, 1), -1);
        Due.is("what was heard", due.names.count(7), 12);
        Due.is("forget", due.names.forget(), 12);
        Due.is("forget nothing", due.names.forget(), 0);
        Due.is("what was heard", due.names.count(7), 0);
        Due.is("anew", due.names.heard(0, 1), 1);
    }

    /** NAMES: 0 by 1 at 2, AGE 3; 1 by 1, AGE 5; 2 by 2 at 9, AGE 5; 3 by 1, AGE 3. */
    private static Due four() {
        Due due = Due.of("0110;2305;9120;3130", "9");
        due.names.days(2);
        due.names.says(1, 0);
        due.names.says(1, 3);
        due.rule("0-1");
        due.names.days(3);
        due.rule("");
        return due;
    }

    private static void fit(int what, int v, int names) {
        Due due = four();
        due.names.heard(what, v);
        Due.is("heard(" + what + ", " + v + ")", due.names.fits(), names);
        due.row("heard(" + what + ", " + v + ")", Integer.bitCount(names));
    }

    private static void fits() {
        Due due = four();
        Due.is("all fit", due.names.fits(), 15);
        due.row("all fit", 4);
        fit(0, 1, 11);
        fit(0, 2, 4);
        fit(0, 0, 0);
        fit(0, 6, 0);
        fit(1, 3, 15);
        fit(1, 4, 6);
        fit(1, 6, 0);
        // PURSES: 0 has 7, 1 has 11, 2 has 20, 3 has 27
        fit(2, 7, 15);
        fit(2, 8, 14);
        fit(2, 20, 12);
        fit(2, 27, 8);
        fit(3, 2, 11);
        fit(3, 9, 4);
        fit(3, 0, 0);
        // 3 (at 3, VOICE 1) hears 1 at 2; 0 (at 0, VOICE 1) does not; 1 HOLDS all but that of 2, who is too far off
        fit(4, 3, 11);
        fit(4, 0, 0);
        fit(4, 1, 0);
        fit(4, 5, 0);
        due.names.heard(1, 4);
        due.names.heard(0, 1);
        Due.is("both", due.names.fits(), 2);
        due.row("both", 1);
        due.names.days(1);
        Due.is("now: 3 has his own back, those of 0 and 1 are old", due.names.fits(), 3);
        due = new Due();
        Due.is("nobody", due.names.fits(), 0);
        due.row("nobody", 0);
    }

    private static void asks() {
        Due due = four();
        // HOLDERS 1, 1, 2, 1: three are left at most by 1 or 2 (01, 02), by 0 four
        Due.is("ask for 1", due.names.asks(), 1);
        due.row("ask for 1", 3);
        due.names.heard(0, 1);
        // 0, 1, 3 by 1: nothing parts them, but 4: who can say
        Due.is("nothing parts them", due.names.asks(), 0);
        due.row("nothing parts them", 3);
        due.rule("o");
        due.rule("(v=1)*(1-o*2)");
        // 0 can say 1 and 3, 3 can say 0 and 1: one is left of the two by either, at most two
        Due.is("who can", due.names.asks(), 40);
        due.row("who can", 2);
        due.names.heard(2, 99);
        Due.is("none fits", due.names.asks(), -2);
        due.row("that tells nothing", 2);
        due = Due.of("0000;1000;1000;9000", "0-1");
        // HOLDERS part one from three, PLACE 1 two from two
        Due.is("by PLACE", due.names.asks(), 31);
        due.row("by PLACE", 2);
        due = Due.of("5000", "");
        Due.is("one alone: whatever", due.names.asks(), 0);
        due.row("one alone", 1);
        Due.is("nobody", new Due().names.asks(), -2);
    }

    private static void saw() {
        Due due = new Due();
        int[][] wrong = {{10, 0, 0}, {-1, 0, 0}, {0, 10, 0}, {0, -1, 0}, {0, 0, 2}, {0, 0, -1}};
        for (int[] w : wrong) {
            Due.is("saw(" + w[0] + ", " + w[1] + ", " + w[2] + ")", due.names.saw(w[0], w[1], w[2]), -1);
        }
        for (int i = 1; i <= 10; i++) {
            Due.is("saw " + i, due.names.saw(i - 1, 10 - i, i % 2), i);
        }
        Due.is("no eleventh", due.names.saw(0, 0, 1), -1);
        Due.is("what was seen", due.names.count(8), 10);
        Due.is("denies", due.names.denies(), 10);
        Due.is("denies nothing", due.names.denies(), 0);
        Due.is("what was seen", due.names.count(8), 0);
    }

    private static void laws() {
        Due due = new Due();
        Due.is("all", due.names.laws(), 160);
        due.row("all", 0, 0, 0);
        due.names.saw(0, 0, 1);
        // c is 0: 16 laws
        Due.is("VOICE 0 at 0", due.names.laws(), 16);
        due.row("VOICE 0 at 0", 0, 0, 0);
        due.names.saw(0, 1, 0);
        // b is 1 or more: 12 laws
        Due.is("not 1 off", due.names.laws(), 12);
        due.row("not 1 off", 0, 1, 0);
        due.names.saw(1, 3, 1);
        // a is 3 b or more: 3, 1
        Due.is("VOICE 1, 3 off", due.names.laws(), 1);
        due.row("VOICE 1, 3 off", 3, 1, 0);
        due.names.saw(1, 3, 0);
        Due.is("none", due.names.laws(), 0);
        due.row("nothing without");
        due.names.denies();
        due.names.saw(9, 0, 0);
        // 9 a is below c: a 0, c 1 .. 9: 36 laws
        Due.is("VOICE 9 not at 0", due.names.laws(), 36);
        due.row("VOICE 9 not at 0", 0, 0, 1);
    }

    private static void tries() {
        Due due = new Due();
        Due.is("of all laws", due.names.tries(), 74);
        due.row("of all laws", 83);
        due.names.saw(0, 0, 1);
        due.names.saw(0, 1, 0);
        due.names.saw(1, 3, 1);
        Due.is("one law: whatever", due.names.tries(), 0);
        due.row("one law", 1);
        due.names.saw(1, 3, 0);
        Due.is("none fits", due.names.tries(), -2);
        due.row("that tells nothing", 1);
        due.names.denies();
        // a 0: c 1 .. 9 and b 0 .. 3: nobody can, ever: all are left
        due.names.saw(9, 0, 0);
        Due.is("nothing parts them", due.names.tries(), 0);
        due.row("nothing parts them", 36);
        due.names.denies();
        // c 0, b 0: a 0 .. 3 can always; with b: 16 laws of c 0
        due.names.saw(0, 0, 1);
        // VOICE 0, 1 off: b 0 can (4 of 16), VOICE 1, 1 off: a >= b can: 10; 1, 2: a >= 2b: 4+2+0.. = 6: 0,0 1,0 2,0 3,0 2,1 3,1
        // VOICE 2, 3 off: 2a >= 3b: b 0: 4; b 1: a 2, 3; b 2: a 3: 7; VOICE 3, 4: 3a >= 4b: 4, 2, 1, 0: 7; 4, 5: 4a >= 5b: 4, 2, 1, 0: 7
        Due.is("the least that leaves 9", due.names.tries(), 23);
        due.row("the least that leaves 9", 9);
    }

    public static void main(String[] args) {
        heard();
        fits();
        asks();
        saw();
        laws();
        tries();
        Due.ends();
    }
}
