/** The edges that promises 29 to 32 name, each by the document's own words. */
public final class DykeEdgesTest {
    private static final int NONE = NamesInMouths.NONE;
    private static final String AT_ONE_PLACE = "4010;4010;4010;4010;4010;4010;4010";

    private static void mouthsOfAnother() {
        Due due = Due.of("0000;9000", "");
        Due.is("of each other, however far", due.names.mouths(), 18);
        due.row("of each other", 1, 0);
        // 0 and 1 at one PLACE, 2 at the other end: somebody must go there and back
        due = Due.of("0000;0000;9000", "");
        Due.is("in a ring", due.names.mouths(), 18);
        due.row("in a ring", 1, 2, 0);
        // 1 is the nearest of all others, but HOLDS one alone
        due = Due.of("0000;4000;9000;5000", "");
        Due.is("each HOLDS one", due.names.mouths(), 16);
        due.row("each HOLDS one", 1, 0, 3, 2);
        Due.is("nothing is said", due.names.count(3), 15);
    }

    private static void mouthsLeastRow() {
        Due due = Due.of("4000;4000", "");
        due.names.line();
        Due.is("two", due.names.mouths(), 0);
        due.row("two", 1, 0);
        due = Due.of("4000;4000;4000", "");
        Due.is("three", due.names.mouths(), 0);
        due.row("three", 1, 2, 0);
        due = Due.of(AT_ONE_PLACE, "");
        Due.is("seven", due.names.mouths(), 0);
        due.row("seven", 1, 0, 3, 2, 5, 6, 4);
        due.people("1111");
        due.names.line();
        due.names.mouths();
        due.row("seven once more", 1, 0, 3, 2, 5, 6, 4);
    }

    private static void mouthsNot() {
        Due due = new Due();
        due.names.days(0);
        Due.is("nobody", due.names.mouths(), -2);
        due.people("4010");
        Due.is("one", due.names.mouths(), -2);
        due.row("nothing is told", 0, 0);
        due.people("4010");
        Due.is("two", due.names.mouths(), 0);
    }

    private static void criersFar0To9() {
        Due due = Due.of("0000;3000;9000", "");
        Due.is("0", due.names.criers(0), 3);
        due.row("0", 7);
        Due.is("2: none hears another", due.names.criers(2), 3);
        Due.is("3: 0 and 3", due.names.criers(3), 2);
        due.row("3", 5);
        Due.is("5: 0 and 3", due.names.criers(5), 2);
        due.row("5", 5);
        Due.is("6: 3 hears all", due.names.criers(6), 1);
        due.row("6", 2);
        Due.is("8: 3 alone hears all", due.names.criers(8), 1);
        due.row("8", 2);
        Due.is("9: each does", due.names.criers(9), 1);
        due.row("9", 1);
    }

    private static void criersLeast() {
        Due due = Due.of(AT_ONE_PLACE, "");
        Due.is("one of seven", due.names.criers(0), 1);
        due.row("the first", 1);
        // at 9, 0, 9, 0: 0 and 1
        due = Due.of("9000;0000;9000;0000", "");
        Due.is("two", due.names.criers(8), 2);
        due.row("0 and 1", 3);
        // at 0, 2, 4, 6: 2 off by 1 and 2 or 3, by 0 and 3 (0, 2 and 4, 6), by 0 and 2: the least bits are 0 and 2 ..
        due = Due.of("0000;2000;4000;6000", "");
        Due.is("two", due.names.criers(2), 2);
        due.row("bits 5, not 6, 9 or 10", 5);
        // fewer goes ahead of less: 6 is more than 3
        due = Due.of("0000;9000;4000;5000", "");
        Due.is("two", due.names.criers(4), 2);
        due.row("0 and 1", 3);
        Due.is("one", due.names.criers(5), 1);
        due.row("2 alone", 4);
        due = new Due();
        due.names.days(0);
        Due.is("nobody", due.names.criers(0), 0);
        due.row("nobody", 0);
    }

    private static void criersNot() {
        Due due = Due.of("0000;3000;9000", "");
        due.names.line();
        for (int v : new int[] {-1, 10, Integer.MIN_VALUE, Integer.MAX_VALUE}) {
            Due.is("criers(" + v + ")", due.names.criers(v), NONE);
            Due.is("criers(" + v + ") of nobody", new Due().names.criers(v), NONE);
        }
        due.row("nothing is told", 0, 1, 2);
    }

    private static void lineOfLikeOnes() {
        Due due = Due.of(AT_ONE_PLACE, "");
        Due.is("seven at one PLACE", due.names.line(), 7);
        due.row("by numbers", 0, 1, 2, 3, 4, 5, 6);
        due = Due.of("9000;0000;5000;9000;0000;5000", "");
        Due.is("six", due.names.line(), 6);
        due.row("by PLACES, then numbers", 1, 4, 2, 5, 0, 3);
        Due.is("one", Due.of("9000", "").names.line(), 1);
        due = new Due();
        due.names.days(0);
        Due.is("nobody", due.names.line(), 0);
        due.row("nobody");
    }

    private static void richHasMore() {
        Due due = Due.of(AT_ONE_PLACE, "");
        due.names.line();
        Due.is("as much is not more", due.names.rich(), 1);
        due.row("the first", 0);
        due = Due.of("0000;1001;2002;3003;4004;5098;6099", "");
        Due.is("each has more", due.names.rich(), 7);
        due.row("each", 0, 1, 2, 3, 4, 5, 6);
        due = Due.of("6000;5001;4002;3003;2004;1098;0099", "");
        Due.is("each has less", due.names.rich(), 1);
        due.row("the first in line", 6);
        due = new Due();
        due.names.days(0);
        Due.is("nobody", due.names.rich(), 0);
        due.row("nobody");
    }

    private static void richLeastRow() {
        // in line: 3 (5), 2 (1), 1 (6), 0 (2)
        Due due = Due.of("9002;8006;7001;6005", "");
        Due.is("5 6, 1 6 or 1 2", due.names.rich(), 2);
        due.row("5 6: by places in line, not by numbers", 3, 1);
        // in line: 0 (50), 1 (10), 2 (60), 3 (20), 4 (70), 5 (30)
        due = Due.of("0050;1010;2060;3020;4070;5030", "");
        Due.is("three", due.names.rich(), 3);
        due.row("50 60 70", 0, 2, 4);
        due = Due.of("0010;1020;2011;3012;4000", "");
        Due.is("10 11 12", due.names.rich(), 3);
        due.row("10 11 12, without 20", 0, 2, 3);
    }

    public static void main(String[] args) {
        Edge.of(29, "(not whose it is; each HOLDS one)", DykeEdgesTest::mouthsOfAnother);
        Edge.of(29, "(of as good ones the least row)", DykeEdgesTest::mouthsLeastRow);
        Edge.of(29, "-2: fewer than two PEOPLE.", DykeEdgesTest::mouthsNot);
        Edge.of(30, "so that each is FAR v (0 .. 9) or less from one of them", DykeEdgesTest::criersFar0To9);
        Edge.of(30, "(bits: of as few the least)", DykeEdgesTest::criersLeast);
        Edge.of(30, "NONE: another v.", DykeEdgesTest::criersNot);
        Edge.of(31, "(by PLACES, of like ones by their numbers): how many", DykeEdgesTest::lineOfLikeOnes);
        Edge.of(32, "of whom each has more in his PURSE than the one ahead: how many", DykeEdgesTest::richHasMore);
        Edge.of(32, "(of as many the least row by places in line())", DykeEdgesTest::richLeastRow);
        Edge.ends(29, 32);
    }
}
