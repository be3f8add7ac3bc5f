/** The edges that promises 16 to 22 name, each by the document's own words. */
public final class HoldsEdgesTest {
    private static final int NONE = NamesInMouths.NONE;
    private static final int LEAST = Integer.MIN_VALUE;
    private static final int MOST = Integer.MAX_VALUE;
    private static final int[] BESIDE_THREE = {-1, 3, 7, LEAST, MOST};
    private static final String THREE = "0910;1920;2930";
    private static final String SEVEN = "0910;0920;0930;0940;0950;0960;0970";

    /** Of three: 1 HOLDS the NAME of 0; nobody says one back. */
    private static Due away(String people) {
        Due due = Due.of(people, "9");
        due.names.says(1, 0);
        due.rule("0-1");
        return due;
    }

    private static void bringsBy0To4() {
        // in a row, each hears the next one alone
        Due due = Due.of("0200;2200;4200;6200;8200", "");
        for (int one = 0; one <= 4; one++) {
            Due.is("to " + one, due.names.brings(0, one), one);
            long[] row = {1, 2, 3, 4};
            due.row("to " + one, java.util.Arrays.copyOf(row, one));
        }
        Due.is("back from 4", due.names.brings(4, 0), 4);
        due.row("back from 4", 3, 2, 1, 0);
        Due.is("nothing is said", due.names.count(2), 0);
    }

    private static void bringsAsItIsThen() {
        // on the DAY on which it was said others can, too; later whose it is alone
        Due due = away(THREE);
        due.names.days(1);
        due.rule("o*9-(a>0)");
        Due.is("whose it is, then 2", due.names.brings(0, 2), 2);
        due.row("whose it is, then 2", 0, 2);
        // VOICE 1 can but from VOICE 5 on the DAY on which it was said: 0 must say his own anew
        due = Due.of("0500;0700;0100", "(v=5)+(u=5)*(a=0)+(v=7)-1");
        due.names.days(1);
        Due.is("its HOLDER once more", due.names.brings(0, 2), 3);
        due.row("its HOLDER once more", 1, 0, 2);
        // who HOLDS one has no room for another
        due = Due.of(THREE, "9");
        due.names.says(2, 1);
        due.rule("0-h");
        Due.is("1 has room", due.names.brings(0, 1), 1);
        Due.is("2 has none", due.names.brings(0, 2), -2);
    }

    private static void bringsLeastRow() {
        Due due = Due.of("0200;1200;2200;3200", "");
        Due.is("by 1 or 2", due.names.brings(0, 3), 2);
        due.row("1", 1, 3);
        due = Due.of("0200;2200;1200;3200", "");
        Due.is("by 2 or 1, whoever is nearer", due.names.brings(0, 3), 2);
        due.row("1", 1, 3);
        // 0 at 0; 1 and 2 at 2; 3 and 4 at 4; 5 at 6: by 1 or 2, then 3 or 4
        due = Due.of("0200;2200;2200;4200;4200;6200", "");
        Due.is("three", due.names.brings(0, 5), 3);
        due.row("1 3 5", 1, 3, 5);
        // as few goes ahead of less: 1 could say it first, too, but 3 does not hear him
        due = Due.of("0200;1100;2200;4200", "");
        Due.is("two", due.names.brings(0, 3), 2);
        due.row("2 3", 2, 3);
    }

    private static void bringsNot() {
        Due due = Due.of("0100;1100;2100;3100;4100;5100", "");
        due.names.line();
        Due.is("by five", due.names.brings(0, 5), -2);
        Due.is("by nobody", Due.of("0000;9000", "").names.brings(0, 1), -2);
        due.row("nothing is told", 0, 1, 2, 3, 4, 5);
        due = Due.of(THREE, "");
        for (int beside : BESIDE_THREE) {
            Due.is("brings(" + beside + ", 0)", due.names.brings(beside, 0), NONE);
            Due.is("brings(0, " + beside + ")", due.names.brings(0, beside), NONE);
            Due.is("brings of both " + beside, due.names.brings(beside, beside), NONE);
        }
    }

    private static void laterIn0To99() {
        Due due = away(THREE);
        Due.is("in 0", due.names.later(0, 0), 1);
        due.row("in 0", 10, 0);
        Due.is("in 1", due.names.later(0, 1), 1);
        due.row("in 1", 9, 1);
        Due.is("in 99", due.names.later(0, 99), 1);
        due.row("in 99", 0, 99);
        due.rule("a-97");
        Due.is("in 98", due.names.later(0, 98), 0);
        due.row("in 98", 0, 1);
        Due.is("in 97", due.names.later(0, 97), 1);
        due.row("in 97", 0, 97);
    }

    private static void laterNot() {
        Due due = away(THREE);
        due.names.line();
        for (int n : new int[] {-1, 100, LEAST, MOST}) {
            Due.is("later(0, " + n + ")", due.names.later(0, n), NONE);
        }
        for (int beside : BESIDE_THREE) {
            Due.is("later(" + beside + ", 0)", due.names.later(beside, 0), NONE);
        }
        due.row("nothing is told", 0, 1, 2);
    }

    private static void homeIn0To99() {
        Due due = away(THREE);
        Due.is("it is", due.names.home(1), 0);
        due.row("two are", 2);
        due.rule("9");
        Due.is("in 1", due.names.home(0), 1);
        due.row("all are", 3);
        due.rule("a-97");
        Due.is("in 98", due.names.home(0), 98);
        due.rule("a-98");
        Due.is("in 99", due.names.home(0), 99);
        due.row("all are", 3);
        due.rule("0-1");
        due.names.days(3);
        due.rule("n-6");
        Due.is("from DAY 3 to DAY 6, and that one", due.names.home(0), 4);
    }

    private static void homeNot() {
        Due due = away(THREE);
        due.names.line();
        due.rule("a-99");
        Due.is("in 100", due.names.home(0), -2);
        due.rule("0-1");
        Due.is("never", due.names.home(0), -2);
        for (int beside : BESIDE_THREE) {
            Due.is("home(" + beside + ")", due.names.home(beside), NONE);
        }
        due.row("nothing is told", 0, 1, 2);
    }

    private static void poorIn0To99() {
        Due due = away("0901;1920;2900");
        Due.is("it is", due.names.poor(2), 0);
        due.row("it is", 21);
        Due.is("in 1", due.names.poor(0), 1);
        due.row("in 1", 21);
        due.names.sheet(2, 3, 99, -99);
        Due.is("in 99", due.names.poor(0), 99);
        due.row("in 99", 99);
        due.names.sheet(2, 3, 98, -98);
        Due.is("in 98", due.names.poor(0), 98);
    }

    private static void poorNot() {
        // on the first DAY 1 is full, as he loses 1 to 2 behind it: so 0 loses 98 in 99 DAYS
        Due due = Due.of("0999;1999;2900", "9");
        due.names.says(1, 0);
        due.names.says(2, 1);
        due.rule("0-1");
        due.names.line();
        Due.is("in 100", due.names.poor(0), -2);
        due.row("nothing is told", 0, 1, 2);
        due.names.later(0, 99);
        Due.is("1 is left in 99", due.names.row(0), 1);
        for (int beside : BESIDE_THREE) {
            Due.is("poor(" + beside + ")", due.names.poor(beside), NONE);
        }
        Due.is("who HOLDS his own loses none", due.names.poor(2), 0);
        Due.is("never", Due.of("0901", "").names.poor(0), -2);
    }

    private static void leadsBack() {
        Due due = Due.of(SEVEN, "");
        Due.is("to himself", due.names.leads(6), 1);
        due.row("to himself", 6, 1);
        for (int name = 0; name < 7; name++) {
            due.names.says((name + 1) % 7, name);
        }
        Due.is("through all", due.names.leads(3), 7);
        due.row("through all", 3, 7);
        due.names.says(6, 6);
        Due.is("to 6, who HOLDS his own", due.names.leads(0), 7);
        due.row("to 6, who HOLDS his own", 6, 1);
        due.names.says(5, 6);
        Due.is("to 5 and 6", due.names.leads(0), 7);
        due.row("to 5 and 6, 5 first", 5, 2);
        Due.is("from within", due.names.leads(6), 2);
        due.row("from within", 6, 2);
    }

    private static void leadsNot() {
        Due due = Due.of(THREE, "");
        due.names.line();
        for (int beside : BESIDE_THREE) {
            Due.is("leads(" + beside + ")", due.names.leads(beside), NONE);
        }
        due.row("nothing is told", 0, 1, 2);
    }

    private static void ringsLargest() {
        Due due = Due.of(SEVEN, "");
        Due.is("seven of one", due.names.rings(), 7);
        due.row("the first", 1, 0);
        due.names.says(6, 5);
        due.names.says(5, 6);
        due.names.says(4, 3);
        due.names.says(3, 4);
        Due.is("two of two, three of one", due.names.rings(), 5);
        due.row("3 and 4", 2, 3);
        due.names.says(0, 1);
        due.names.says(0, 2);
        Due.is("1 and 2 are in none", due.names.rings(), 3);
        due.row("3 and 4", 2, 3);
        for (int name = 0; name < 7; name++) {
            due.names.says((name + 6) % 7, name);
        }
        Due.is("one of seven", due.names.rings(), 1);
        due.row("one of seven", 7, 0);
        due = Due.of(SEVEN, "");
        due.names.calls(6);
        Due.is("6 alone", due.names.rings(), 1);
        due.row("6 alone", 1, 6);
    }

    private static void ringsOfNobody() {
        Due due = new Due();
        due.names.days(0);
        Due.is("none", due.names.rings(), 0);
        due.row("nothing");
    }

    private static void robsAll() {
        Due due = Due.of("0999;0999;0999;0999;0999;0999;0999", "");
        due.names.calls(0);
        Due.is("six times 99, into a full PURSE", due.names.robs(0), 594);
        due.row("the first", 1);
        Due.is("none", due.names.robs(6), 0);
        due.row("none", -1);
    }

    private static void robsFirst() {
        Due due = Due.of("0901;0905;0906;0906", "");
        Due.is("his own alone", due.names.robs(3), 0);
        due.row("none", -1);
        due.names.calls(0);
        Due.is("5, 6 and 6", due.names.robs(0), 17);
        due.row("of like ones the first", 2);
        due.names.says(1, 2);
        Due.is("5 and 6", due.names.robs(0), 11);
        due.row("the most", 3);
        due.names.says(1, 3);
        due.names.says(1, 0);
        Due.is("1, 6 and 6", due.names.robs(1), 13);
        due.row("not his own, of like ones the first", 2);
        due.names.sheet(3, 0, 0, 0);
        Due.is("nothing", due.names.robs(1), 0);
        due.row("of empty ones the first", 0);
    }

    private static void robsNot() {
        Due due = Due.of(THREE, "");
        due.names.line();
        for (int beside : BESIDE_THREE) {
            Due.is("robs(" + beside + ")", due.names.robs(beside), NONE);
        }
        due.row("nothing is told", 0, 1, 2);
    }

    public static void main(String[] args) {
        Edge.of(16, "The fewest SAYINGS (0 .. 4)", HoldsEdgesTest::bringsBy0To4);
        Edge.of(16, "by any who CAN then, one behind the other", HoldsEdgesTest::bringsAsItIsThen);
        Edge.of(16, "(of as few the least row)", HoldsEdgesTest::bringsLeastRow);
        Edge.of(16, "-2: by no four; NONE: none such.", HoldsEdgesTest::bringsNot);
        Edge.of(17, "The HOLDER of a NAME in n DAYS (0 .. 99), nothing being done", HoldsEdgesTest::laterIn0To99);
        Edge.of(17, "NONE: others.", HoldsEdgesTest::laterNot);
        Edge.of(18, "In how many DAYS (0: it is .. 99) a NAME is HELD by whose it is, nothing being done", HoldsEdgesTest::homeIn0To99);
        Edge.of(18, "-2: in none of these; NONE: none such.", HoldsEdgesTest::homeNot);
        Edge.of(19, "In how many DAYS (0: it is .. 99) a PURSE is empty first, nothing being done", HoldsEdgesTest::poorIn0To99);
        Edge.of(19, "-2: in none of these; NONE: none such.", HoldsEdgesTest::poorNot);
        Edge.of(20, "one comes again for the first time who was there: how many", HoldsEdgesTest::leadsBack);
        Edge.of(20, "NONE: none such.", HoldsEdgesTest::leadsNot);
        Edge.of(21, "who is the first in it (of as large ones the first", HoldsEdgesTest::ringsLargest);
        Edge.of(21, "nothing without PEOPLE", HoldsEdgesTest::ringsOfNobody);
        Edge.of(22, "if his PURSE had room for all: how much", HoldsEdgesTest::robsAll);
        Edge.of(22, "(of like ones the first; -1: none)", HoldsEdgesTest::robsFirst);
        Edge.of(22, "NONE: none such.", HoldsEdgesTest::robsNot);
        Edge.ends(16, 22);
    }
}
