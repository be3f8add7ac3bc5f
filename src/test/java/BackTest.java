/** Promises 23 to 28: order, silences, goes, peace, wed, loud. */
public final class BackTest {
    private static void order() {
        Due due = Due.of("0900;0900;0900", "9");
        Due.is("all are home", due.names.order(), 3);
        due.row("nobody says");
        // who HOLDS none can say: 2 HOLDS that of 1, 1 that of 0, 0 that of 2, so nobody can
        due.names.says(2, 1);
        due.names.says(1, 0);
        due.names.says(0, 2);
        due.rule("0-h");
        Due.is("nobody can", due.names.order(), 0);
        due.row("of as good ones the least", 0, 1, 2);
        // 2 HOLDS those of 0 and 1, 0 that of 2: 1 can; 0 behind 2 alone; 2 behind 0 and 1: 0 never
        due.rule("9");
        due.names.says(2, 0);
        due.rule("0-h");
        Due.is("1 alone comes home", due.names.order(), 1);
        due.row("of as good ones the least", 0, 1, 2);
        Due.is("nothing is done", due.names.count(3), 0);
    }

    private static void orderMatters() {
        // who HOLDS none can say: 3 HOLDS that of 2, 2 that of 1, 1 that of 0, 0 none: 3, 2, 1, 0 can't; 0, 1, 2, 3 can
        Due due = Due.of("0900;0900;0900;0900", "9");
        due.names.says(0, 1);
        due.names.says(1, 2);
        due.names.says(2, 3);
        due.names.says(3, 0);
        due.names.says(2, 0);
        due.rule("0-h");
        // now 0 HOLDS 1; 1 HOLDS 2; 2 HOLDS 3 and 0; 3 none: 3 says his, 0 behind 1, 1 behind 2, 2 behind 0 and 3
        Due.is("3 alone", due.names.order(), 1);
        due.row("least", 0, 1, 2, 3);
        due.rule("9");
        due.names.says(0, 0);
        due.rule("0-h");
        // 0 HOLDS 0 and 1; 1 HOLDS 2; 2 HOLDS 3; 3 none: 3, then 2, then 1
        Due.is("3, then 2, then 1", due.names.order(), 4);
        due.row("3, then 2, then 1", 3, 2, 1);
    }

    private static void orderOfSeven() {
        Due due = Due.of("0900;0900;0900;0900;0900;0900;0900", "9");
        for (int i = 0; i < 7; i++) {
            due.names.says(i, (i + 1) % 7);
        }
        Due.is("the first 6 alone say", due.names.order(), 6);
        due.row("the first 6", 0, 1, 2, 3, 4, 5);
        // each can when he HOLDS none: nobody can, till 6 has given one up
        due.names.says(5, 0);
        due.rule("0-h");
        Due.is("6 HOLDS none but does not say", due.names.order(), 0);
        due.row("the least row", 0, 1, 2, 3, 4, 5);
    }

    private static void silences() {
        // NAMES: 0 by 1, 1 by 2, 2 by 0, 3 by 2; who HOLDS just one can say
        Due due = Due.of("0900;0900;0900;0900", "9");
        due.names.says(1, 0);
        due.names.says(2, 1);
        due.names.says(0, 2);
        due.names.says(2, 3);
        due.rule("0-(h>1)-(h<1)");
        // 0 says his, so that 1 HOLDS none; without him 1 says his, so that 2 HOLDS one and says his
        Due.is("0 is to be silenced", due.names.silences(1), 0);
        due.row("0 is to be silenced", 2, 1);
        Due.is("nothing is done", due.names.count(1), 0);
        // who HOLDS none can say: 3 says his; 0, 1, 2 wait for one another, but that 2 HOLDS 1 alone then
        due.rule("0-h");
        Due.is("whom it helps not: the first", due.names.silences(30), 0);
        due.row("3 alone", 1, 1);
        due.rule("9");
        Due.is("each is missed alike: the first", due.names.silences(30), 0);
        due.row("each is missed alike", 3, 4);
        due.rule("0-1");
        Due.is("nobody can: the first", due.names.silences(1), 0);
        due.row("nobody can", 0, 0);
        due.rule("(v>0)-1");
        due.names.days(1);
        Due.is("all are home: the first", due.names.silences(1), 0);
        due.row("all are home", 4, 4);
        Due.is("0 days", due.names.silences(0), -1);
        Due.is("31 days", due.names.silences(31), -1);
        due.row("refused ones tell nothing", 4, 4);
        Due.is("nobody to silence", new Due().names.silences(30), -2);
        Due.is("another n ahead of nobody", new Due().names.silences(0), -1);
    }

    private static void goes() {
        // VOICE 2 at 5; others at 0, 2 and 9
        Due due = Due.of("5200;0000;2000;9000", "");
        Due.is("between 0 and 2", due.names.goes(0), 2);
        due.row("between 0 and 2", 2, 3);
        Due.is("he is where he was", due.names.one(0, 0), 5);
        Due.is("VOICE 0 must be at one", due.names.goes(1), 2);
        due.row("VOICE 0 must be at one", 1, 2);
        due.rule("0-1");
        Due.is("none anywhere: he stays", due.names.goes(0), 5);
        due.row("none anywhere: he stays", 0, 0);
        due.rule("0-(f>4)-(f<4)");
        // 4 off from 0: 4; from 2: 6; from 9: 5
        Due.is("one at 4, 5, 6 alike: he stays", due.names.goes(0), 5);
        due.row("one at 4, 5, 6 alike: he stays", 1, 0);
        due.names.moves(3, 8);
        // 4 off from 0 and 8: 4
        Due.is("two at 4", due.names.goes(0), 4);
        due.row("two at 4", 2, 1);
        due.names.moves(3, 9);
        due.names.moves(2, 9);
        due.names.moves(1, 1);
        due.names.moves(0, 7);
        due.rule("0-(f=2)-(f>2)-(f<1)");
        // 1 off from 1: 0 and 2; from 9: 8, of two
        Due.is("the most", due.names.goes(0), 8);
        due.row("the most", 2, 1);
        due = Due.of("5000;4000;6000", "0-(f<1)-(f>1)");
        Due.is("he is well where he is", due.names.goes(0), 5);
        due = Due.of("5000;3000;7000", "0-(f<1)-(f>1)");
        Due.is("of 4 and 6 the least", due.names.goes(0), 4);
        due.row("of 4 and 6 the least", 1, 1);
        due = Due.of("9000;0000", "");
        Due.is("to 0", due.names.goes(0), 0);
        due.row("to 0", 1, 9);
        due.rule("f-9");
        Due.is("9 off is where he is", due.names.goes(0), 9);
        due.rule("f-10");
        Due.is("10 off is nowhere", due.names.goes(0), 9);
        due.row("10 off is nowhere", 0, 0);
        due = Due.of("5000;3000;7000", "0-(f<1)-(f>1)");
        due.names.goes(0);
        Due.is("none such", due.names.goes(3), -1);
        Due.is("none such", due.names.goes(-1), -1);
        due.row("refused ones tell nothing", 1, 1);
    }

    private static void peace() {
        Due due = Due.of("0110;1220;2330", "");
        Due.is("it is", due.names.peace(), 0);
        due.row("it is", 60);
        due.names.says(1, 0);
        due.names.says(2, 1);
        due.rule("a-4+o");
        Due.is("in four days", due.names.peace(), 4);
        due.row("in four days", 60);
        due.rule("a-98");
        Due.is("on the last", due.names.peace(), 99);
        due.rule("a-99");
        Due.is("a day too late", due.names.peace(), -2);
        due.row("that tells nothing", 60);
        due.rule("(v>1)-1");
        Due.is("1 can, 0 can't", due.names.peace(), -2);
        Due.is("nothing is done", due.names.count(1), 0);
    }

    private static void wed() {
        Due due = Due.of("0900;0900;0900;0900;0900", "9");
        Due.is("none", due.names.wed(), 0);
        due.row("nothing without");
        due.names.says(4, 3);
        due.names.says(3, 4);
        Due.is("3 and 4", due.names.wed(), 1);
        due.row("3 and 4", 3, 4);
        due.names.says(2, 1);
        due.names.says(1, 2);
        Due.is("1 and 2 too", due.names.wed(), 2);
        due.row("the least", 1, 2);
        due.names.says(0, 2);
        due.names.says(2, 0);
        Due.is("0 and 2", due.names.wed(), 2);
        due.row("0 and 2", 0, 2);
        due.names.says(0, 0);
        due.names.says(0, 3);
        Due.is("none", due.names.wed(), 0);
        due.row("nothing without");
    }

    private static void loud() {
        Due due = Due.of("0300;2300;4200;9200", "");
        // 0: 1; 1: 0, 2; 2: 1; 3: none
        Due.is("1", due.names.loud(), 1);
        due.row("two; 3 is said by nobody", 2, 8);
        due.rule("9");
        Due.is("of equal ones the first", due.names.loud(), 0);
        due.row("all can", 3, 0);
        due.rule("0-1");
        Due.is("nobody can: the first", due.names.loud(), 0);
        due.row("nobody can", 0, 15);
        Due.is("nobody is there", new Due().names.loud(), -2);
    }

    public static void main(String[] args) {
        order();
        orderMatters();
        orderOfSeven();
        silences();
        goes();
        peace();
        wed();
        loud();
        Due.ends();
    }
}
