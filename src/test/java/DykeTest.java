/** Promises 29 to 32: mouths, criers, line, rich. */
public final class DykeTest {
    private static void mouths() {
        Due due = Due.of("0000;1000;8000;9000", "");
        Due.is("two by two", due.names.mouths(), 4);
        due.row("two by two", 1, 0, 3, 2);
        due = Due.of("0000;0000;0000", "");
        Due.is("all at one PLACE", due.names.mouths(), 0);
        due.row("the least row", 1, 2, 0);
        due = Due.of("0000;5000;9000", "");
        Due.is("three in a ring", due.names.mouths(), 18);
        due.row("of both rings the least", 1, 2, 0);
        due = Due.of("0000;9000", "");
        Due.is("two", due.names.mouths(), 18);
        due.row("two", 1, 0);
        due.names.says(1, 0);
        Due.is("whoever HOLDS them now", due.names.mouths(), 18);
        Due.is("one", Due.of("0000", "").names.mouths(), -2);
        Due.is("nobody", new Due().names.mouths(), -2);
        due = Due.of("9000;0000;8000;1000;7000;2000;5000", "");
        // 9, 8, 7 and 5 are 0, 2, 4, 6; 0, 1, 2 are 1, 3, 5: rings of 9 8, of 7 5, of 0 1 2
        Due.is("seven", due.names.mouths(), 2 + 4 + 4);
        due.row("seven", 2, 3, 0, 5, 6, 1, 4);
    }

    private static void criers() {
        Due due = Due.of("0000;2000;9000;5000", "");
        Due.is("each alone", due.names.criers(0), 4);
        due.row("each alone", 15);
        Due.is("2 off: 0 or 2 for both, 9, 5", due.names.criers(2), 3);
        due.row("2 off", 13);
        Due.is("3 off: 2 hears 0 and 5, and 9", due.names.criers(3), 2);
        due.row("3 off", 6);
        Due.is("4 off: 9 and 5 by either, 0 and 2", due.names.criers(4), 2);
        due.row("4 off: of as few the least", 5);
        Due.is("5 off: 5 hears all", due.names.criers(5), 1);
        due.row("5 off", 8);
        Due.is("9 off: whoever", due.names.criers(9), 1);
        due.row("9 off", 1);
        Due.is("10 off", due.names.criers(10), -1);
        Due.is("-1 off", due.names.criers(-1), -1);
        due.row("refused ones tell nothing", 1);
        due = new Due();
        Due.is("nobody", due.names.criers(3), 0);
        due.row("nobody", 0);
        due = Due.of("4000;4000;4000", "");
        Due.is("at one PLACE", due.names.criers(0), 1);
        due.row("at one PLACE", 1);
    }

    private static void line() {
        Due due = Due.of("5000;2000;5000;0000;2000;9000;5000", "");
        Due.is("seven", due.names.line(), 7);
        due.row("by PLACES, then numbers", 3, 1, 4, 0, 2, 6, 5);
        due.names.moves(3, 9);
        due.names.line();
        due.row("by PLACES as they are", 1, 4, 0, 2, 6, 3, 5);
        due = new Due();
        Due.is("nobody", due.names.line(), 0);
        due.row("nobody");
    }

    private static void rich() {
        // in line: 3 (5), 1 (3), 4 (4), 0 (4), 2 (8), 6 (1), 5 (9)
        Due due = Due.of("5004;2003;5008;0005;2004;9009;5001", "");
        Due.is("3 4 8 9", due.names.rich(), 4);
        due.row("the least by places in line", 1, 4, 2, 5);
        due = Due.of("0005;1005;2005", "");
        Due.is("like ones are not more", due.names.rich(), 1);
        due.row("the first", 0);
        due = Due.of("9010;0020;5015", "");
        // in line: 1 (20), 2 (15), 0 (10)
        Due.is("poorer and poorer", due.names.rich(), 1);
        due.row("the first in line", 1);
        due = Due.of("0010;1020;2011;3012;4000", "");
        Due.is("10 11 12", due.names.rich(), 3);
        due.row("10 11 12", 0, 2, 3);
        due = Due.of("0000;1000", "");
        Due.is("empty PURSES", due.names.rich(), 1);
        due.row("empty PURSES", 0);
        due = new Due();
        Due.is("nobody", due.names.rich(), 0);
        due.row("nobody");
    }

    public static void main(String[] args) {
        mouths();
        criers();
        line();
        rich();
        Due.ends();
    }
}
