/** Promises 16 to 22: brings, later, home, poor, leads, rings, robs. */
public final class HoldsTest {
    private static void brings() {
        // each hears 2 off
        Due due = Due.of("0200;2200;4200;6200;8200", "");
        Due.is("he HOLDS it", due.names.brings(0, 0), 0);
        due.row("none says it");
        Due.is("beside him", due.names.brings(0, 1), 1);
        due.row("beside him", 1);
        Due.is("four on", due.names.brings(0, 4), 4);
        due.row("four on", 1, 2, 3, 4);
        Due.is("none such", due.names.brings(5, 0), -1);
        Due.is("none such", due.names.brings(0, 5), -1);
        Due.is("none such", due.names.brings(-1, 0), -1);
        Due.is("none such", due.names.brings(0, -1), -1);
        due.row("refused ones tell nothing", 1, 2, 3, 4);
        Due.is("nothing is said", due.names.count(2), 0);
        due = Due.of("0100;1100;2100;3100;4100;5100", "");
        Due.is("five on", due.names.brings(0, 5), -2);
        Due.is("four on", due.names.brings(1, 5), 4);
        due = Due.of("0200;1200;2200;3200", "");
        Due.is("by 1 or 2", due.names.brings(0, 3), 2);
        due.row("the least row", 1, 3);
    }

    private static void bringsByAge() {
        // whose it is can say it always, others but on the day on which it was said
        Due due = Due.of("0500;0500;0500", "9");
        due.names.says(1, 0);
        due.rule("o*9-(a>0)");
        Due.is("at once", due.names.brings(0, 2), 1);
        due.rule("0-1");
        due.names.days(1);
        due.rule("o*9-(a>0)");
        Due.is("when it is said back", due.names.brings(0, 2), 2);
        due.row("when it is said back", 0, 2);
        // VOICE 1 can but from VOICE 5 on the day on which it was said: so 0 must say his own anew
        due = Due.of("0500;0700;0100", "(v=5)+(u=5)*(a=0)+(v=7)-1");
        due.names.days(1);
        Due.is("its HOLDER once more", due.names.brings(0, 2), 3);
        due.row("its HOLDER once more", 1, 0, 2);
        // who HOLDS one has no room for another; 1 HOLDS none once 2 has his
        due = Due.of("0500;0500;0500", "9");
        due.names.says(2, 1);
        due.rule("0-h");
        Due.is("he has room", due.names.brings(0, 1), 1);
        Due.is("he has none", due.names.brings(0, 2), -2);
    }

    private static Due robbed() {
        // 1 HOLDS the NAME of 0, which hears 1 off and stands 2 off; 2 HOLDS that of 3, who can say it
        Due due = Due.of("0103;2305;8520;9907", "");
        due.names.says(1, 0);
        due.names.says(2, 3);
        return due;
    }

    private static void later() {
        Due due = robbed();
        Due.is("now", due.names.later(0, 0), 1);
        due.row("now", 3, 0);
        Due.is("in 2", due.names.later(0, 2), 1);
        due.row("in 2", 1, 2);
        Due.is("in 99", due.names.later(0, 99), 1);
        due.row("in 99", 0, 99);
        Due.is("3 in 1", due.names.later(3, 1), 3);
        due.row("3 in 1", 7, 1);
        Due.is("in 100", due.names.later(0, 100), -1);
        Due.is("in -1", due.names.later(0, -1), -1);
        Due.is("none such", due.names.later(4, 1), -1);
        due.row("refused ones tell nothing", 7, 1);
        Due.is("nothing is done", due.names.count(1), 0);
    }

    private static void home() {
        Due due = robbed();
        Due.is("it is", due.names.home(2), 0);
        due.row("it is", 2);
        Due.is("in a day", due.names.home(3), 1);
        due.row("in a day", 3);
        Due.is("never", due.names.home(0), -2);
        Due.is("none such", due.names.home(4), -1);
        Due.is("none such", due.names.home(-1), -1);
        due.row("these tell nothing", 3);
        due.rule("a-98");
        Due.is("on the last day", due.names.home(0), 99);
        due.row("on the last day", 4);
        due.rule("a-99");
        Due.is("a day too late", due.names.home(0), -2);
    }

    private static void poor() {
        Due due = robbed();
        Due.is("0 has 3, and 1 a day goes", due.names.poor(0), 3);
        due.row("PURSES then", 35);
        Due.is("1 has more and more", due.names.poor(1), -2);
        Due.is("none such", due.names.poor(4), -1);
        Due.is("none such", due.names.poor(-1), -1);
        due.row("these tell nothing", 35);
        due.names.sheet(2, 1, 99, 0);
        Due.is("it is", due.names.poor(1), 0);
        due.row("it is", 99);
        Due.is("on the last day", due.names.poor(0), 99);
        Due.is("nothing is done", due.names.count(4), 99);
    }

    private static void leads() {
        Due due = Due.of("0900;0900;0900;0900;0900", "9");
        Due.is("his own", due.names.leads(2), 1);
        due.row("his own", 2, 1);
        // 4 to 3 to 0 to 1 to 2 to 0
        due.names.says(3, 4);
        due.names.says(0, 3);
        due.names.says(1, 0);
        due.names.says(2, 1);
        due.names.says(0, 2);
        Due.is("by two into a ring of three", due.names.leads(4), 5);
        due.row("by two into a ring of three", 0, 3);
        Due.is("within the ring", due.names.leads(1), 3);
        due.row("within the ring", 1, 3);
        Due.is("none such", due.names.leads(5), -1);
        Due.is("none such", due.names.leads(-1), -1);
        due.row("refused ones tell nothing", 1, 3);
    }

    private static void rings() {
        Due due = Due.of("0900;0900;0900;0900;0900;0900;0900", "9");
        Due.is("each his own", due.names.rings(), 7);
        due.row("the first", 1, 0);
        due.names.says(2, 1);
        due.names.says(1, 2);
        due.names.says(6, 4);
        due.names.says(4, 6);
        due.names.says(0, 3);
        Due.is("0, 1 2, 4 6, 5", due.names.rings(), 4);
        due.row("the first of the largest", 2, 1);
        due.names.says(5, 4);
        due.names.says(6, 5);
        Due.is("0, 1 2, 4 5 6", due.names.rings(), 3);
        due.row("the largest", 3, 4);
        due = Due.of("0900;0900", "9");
        due.names.says(1, 0);
        Due.is("0 is in none", due.names.rings(), 1);
        due.row("1 alone", 1, 1);
        due = new Due();
        due.names.days(0);
        Due.is("nobody", due.names.rings(), 0);
        due.row("nothing without PEOPLE");
    }

    private static void robs() {
        Due due = Due.of("0990;0911;0930;0930", "9");
        Due.is("his own alone", due.names.robs(0), 0);
        due.row("none", -1);
        due.names.calls(0);
        Due.is("all, though his PURSE has no room", due.names.robs(0), 71);
        due.row("of like ones the first", 2);
        due.names.says(1, 0);
        Due.is("1 robs 0", due.names.robs(1), 90);
        due.row("1 robs 0", 0);
        due.names.says(1, 2);
        Due.is("1 robs 0 and 2", due.names.robs(1), 120);
        due.row("the more", 0);
        due.names.sheet(2, 0, 0, 0);
        Due.is("there is nothing", due.names.robs(0), 0);
        due.row("of like ones the first", 1);
        Due.is("none such", due.names.robs(4), -1);
        Due.is("none such", due.names.robs(-1), -1);
        due.row("refused ones tell nothing", 1);
    }

    public static void main(String[] args) {
        brings();
        bringsByAge();
        later();
        home();
        poor();
        leads();
        rings();
        robs();
        Due.ends();
    }
}
