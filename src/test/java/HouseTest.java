/** Promises 4 to 11: room, guest, use, gives, come, leave, over, sum. */
public final class HouseTest {
    private static final Due due = new Due();

    public static void main(String[] args) {
        roomsAndGuests();
        using();
        giving();
        joining();
        refused();
        oneHundred();
        coming();
        leavingByRule();
        equalOnes();
        notAboveZero();
        longStairs();
        due.end();
    }

    private static void roomsAndGuests() {
        MoveInn x = due.inn("room 9 1;room 0 0;guest a trunk 99 bath;guest b trunk 7 ill;guest c trunk 0 ill bath;");
        due.is("room(0, 0)", x.room(0, 0), 9);
        due.is("room(1, 0)", x.room(1, 0), 0);
        due.is("room(0, 1)", x.room(0, 1), 1);
        due.is("room(1, 1)", x.room(1, 1), 0);
        due.is("room(1, 2)", x.room(1, 2), -1);
        due.is("room(0, 3)", x.room(0, 3), -1);
        due.is("room(0, -1)", x.room(0, -1), -1);
        due.is("room(-1, 0)", x.room(-1, 0), -1);
        due.is("room(2, 0)", x.room(2, 0), -1);
        int[][] all = {{99, 1, 0}, {7, 0, 1}, {0, 1, 1}};
        for (int guest = 0; guest < 3; guest++) {
            for (int what = 0; what < 3; what++) {
                due.is("guest(" + guest + ", " + what + ")", x.guest(guest, what), all[guest][what]);
            }
            due.is("guest(" + guest + ", 3)", x.guest(guest, 3), -1);
            due.is("guest(" + guest + ", 4)", x.guest(guest, 4), 0);
            due.is("guest(" + guest + ", 5)", x.guest(guest, 5), 0);
        }
        due.is("guest(0, 6)", x.guest(0, 6), -1);
        due.is("guest(0, -1)", x.guest(0, -1), -1);
        due.is("guest(3, 0)", x.guest(3, 0), -1);
        due.is("guest(-1, 0)", x.guest(-1, 0), -1);
        x.come(2, 0);
        due.is("room(0, 2)", x.room(0, 2), 2);
        due.is("guest(2, 3)", x.guest(2, 3), 0);
    }

    private static void using() {
        MoveInn x = due.inn("rule 1;rule 2;");
        due.is("count(4)", x.count(4), 0);
        due.is("use(1)", x.use(1), true);
        due.is("count(4)", x.count(4), 1);
        due.is("use(2)", x.use(2), false);
        due.is("use(-2)", x.use(-2), false);
        due.is("count(4)", x.count(4), 1);
        due.is("use(NONE)", x.use(-1), true);
        due.is("count(4)", x.count(4), -1);
        x = due.inn("room 0 0;");
        due.is("use(0) without rules", x.use(0), false);
        due.is("use(NONE) without rules", x.use(-1), true);
    }

    private static void giving() {
        MoveInn x = due.inn("room 1 0;room 4 1;room 2 1;guest a trunk 37 bath;guest b trunk 1 ill;"
                + "rule trunk*1000+bath*100+ill*10+here;rule gap*100+floors*10+stove;rule moved;rule 0-1;");
        due.is("gives of one who is out", Due.gives(x, 0, 0, 1), Due.THROWS);
        x.come(0, 0);
        due.is("gives(0, 0, 1)", Due.gives(x, 0, 0, 1), 37100);
        due.is("gives(2, 0, 1)", Due.gives(x, 2, 0, 1), 0);
        x.come(1, 0);
        due.is("gives(0, 0, 0), where another one is", Due.gives(x, 0, 0, 0), 37101);
        due.is("gives(0, 1, 2)", Due.gives(x, 0, 1, 2), 1010);
        due.is("gives(1, 0, 0)", Due.gives(x, 1, 0, 0), 30);
        due.is("gives(1, 0, 2)", Due.gives(x, 1, 0, 2), 221);
        due.is("gives(1, 1, 1)", Due.gives(x, 1, 1, 1), 131);
        due.is("gives(2, 0, 2)", Due.gives(x, 2, 0, 2), 1);
        due.is("gives(2, 1, 2)", Due.gives(x, 2, 1, 2), 0);
        due.is("gives(3, 1, 2)", Due.gives(x, 3, 1, 2), -1);
        due.is("gives for the room itself", Due.gives(x, 0, 0, 1), Due.THROWS);
        due.is("gives(4, 0, 2)", Due.gives(x, 4, 0, 2), Due.THROWS);
        due.is("gives(NONE, 0, 2)", Due.gives(x, -1, 0, 2), Due.THROWS);
        due.is("gives(0, 2, 2)", Due.gives(x, 0, 2, 2), Due.THROWS);
        due.is("gives(0, -1, 2)", Due.gives(x, 0, -1, 2), Due.THROWS);
        due.is("gives(0, 0, 3)", Due.gives(x, 0, 0, 3), Due.THROWS);
        due.is("gives(0, 0, -1)", Due.gives(x, 0, 0, -1), Due.THROWS);
        x.leave(0, 3);
        due.is("gives of one who has left", Due.gives(x, 0, 0, 2), Due.THROWS);
    }

    /** How the parts of a rule are joined. */
    private static void joining() {
        rule("2+3*4", 14);
        rule("(2+3)*4", 20);
        rule("10-3-2", 5);
        rule("10-(3-2)", 9);
        rule("2*3-4*5+1", -13);
        rule("1+1<2+1", 1);
        rule("2<2", 0);
        rule("3<2", 0);
        rule("1+1=2", 1);
        rule("1=2", 0);
        rule("not 5", 0);
        rule("not 0", 1);
        rule("not not 7", 1);
        rule("not 0*5", 5);
        rule("not 0+5", 6);
        rule("not 1 < 2", 1);
        rule("not(1<2)", 0);
        rule("5 and 7", 1);
        rule("5 and 0", 0);
        rule("0 or 9", 1);
        rule("0 or 0", 0);
        rule("1 or 1 and 0", 0);
        rule("1 or (1 and 0)", 1);
        rule("0 and 1 or 1", 1);
        rule("0 and (1 or 1)", 0);
        rule("0-1 and 1", 1);
        rule("0-1<0", 1);
        rule("(5 and 7)+(3 or 0)+(1=1)", 3);
        rule("9999*9999*9999", 9999 * 9999 * 9999);
        rule("9999*9999*22+9999*9999", 9999 * 9999 * 22 + 9999 * 9999);
        rule("0000+0012", 12);
        rule("1<2 and 2<1 or 3=3", 1);
        rule("1 and 1+(1 and 1+(1 and 1+(1 and 1+(1 and 1*2)*3)*4)*5)", 1);
        rule("1 or 1<1+1*(1 or 1<1+1*(1 or 1<1+1*(1 or 1<1+1*(1 or 1<1+1*1))))", 1);
        rule("0 or 0=1+2*(0 or 0=1+2*(0 or 0=1+2*(0 or 0=1+2*(0 or 0=1+2*7))))", 0);
    }

    private static void rule(String text, int want) {
        MoveInn x = due.inn("room 0 0;room 0 0;guest a trunk 1;rule " + text + ";");
        x.come(0, 0);
        due.is(text, Due.gives(x, 0, 0, 1), want);
    }

    private static void refused() {
        MoveInn x = due.inn("room 0 0;room 0 0;guest a trunk 1;guest b trunk 1;guest c trunk 1;");
        due.is("come(-1, 0)", x.come(-1, 0), 1);
        due.is("come(3, 0)", x.come(3, 0), 1);
        due.is("leave(3, 0)", x.leave(3, 0), 1);
        due.is("come(3, -1): the first reason", x.come(3, -1), 1);
        due.is("come(0, -1)", x.come(0, -1), 2);
        due.is("come(0, 100000)", x.come(0, 100000), 2);
        due.is("leave(0, 0)", x.leave(0, 0), 3);
        due.is("leave(0, -1): the first reason", x.leave(0, -1), 2);
        due.is("come(0, 10)", x.come(0, 10), 0);
        due.is("come(0, 10)", x.come(0, 10), 3);
        due.is("come(0, 9)", x.come(0, 9), 2);
        due.is("come(1, 9)", x.come(1, 9), 2);
        due.is("leave(1, 9)", x.leave(1, 9), 2);
        due.is("leave(1, 10)", x.leave(1, 10), 3);
        due.is("a refused one tells no minute", x.come(0, 5000), 3);
        due.is("come(1, 10)", x.come(1, 10), 0);
        due.is("come(1, 10): in already, though full", x.come(1, 10), 3);
        due.is("come(2, 10)", x.come(2, 10), 4);
        due.is("count(9)", x.count(9), 2);
        due.is("count(3)", x.count(3), 2);
        due.is("leave(1, 99999)", x.leave(1, 99999), 0);
        due.is("come(2, 99998)", x.come(2, 99998), 2);
        due.is("come(2, 99999)", x.come(2, 99999), 0);
        x = due.inn("guest a trunk 1;");
        due.is("come without rooms", x.come(0, 0), 1);
        due.is("leave without rooms", x.leave(0, 0), 1);
    }

    private static void oneHundred() {
        MoveInn x = due.inn("room 0 0;guest a trunk 1;guest b trunk 1;");
        for (int i = 0; i < 50; i++) {
            due.is("come(0, " + i + ")", x.come(0, i), 0);
            due.is("leave(0, " + i + ")", x.leave(0, i), 0);
        }
        due.is("count(9)", x.count(9), 100);
        due.is("come, the 101st", x.come(0, 50), 5);
        due.is("come, too early", x.come(0, 48), 2);
        due.is("leave, not in", x.leave(0, 50), 3);
        due.is("over()", x.over(), 100);
        x = due.inn("room 0 0;guest a trunk 1;guest b trunk 1;");
        x.come(1, 0);
        x.leave(1, 0);
        x.come(1, 0);
        for (int i = 0; i < 48; i++) {
            x.leave(1, 0);
            x.come(1, 0);
        }
        due.is("leave, the 100th", x.leave(1, 0), 0);
        due.is("leave, the 101st", x.leave(1, 0), 3);
        due.is("come, the 101st", x.come(1, 0), 5);
    }

    private static void coming() {
        MoveInn x = due.inn("room 1 0;room 1 0;room 3 0;room 0 0;"
                + "guest a trunk 9;guest b trunk 10 bath;guest c trunk 99;guest d trunk 29 bath;");
        due.is("over()", x.over(), 0);
        x.come(0, 7);
        due.is("over(): 1 and 2 for a floor", x.over(), 10);
        due.is("guest(0, 5): 1 and 10 for a floor", x.guest(0, 5), 11);
        x.come(1, 8);
        due.is("over(): a goes on by 1, b comes by 1 + 2 + 1", x.over(), 15);
        due.is("guest(0, 5)", x.guest(0, 5), 12);
        due.is("sum(1)", x.sum(1), 0);
        x.come(2, 100);
        due.is("over(): a by 1 + 4, b by 1 + 1, c by 1 + 2 + 9", x.over(), 119);
        due.is("sum(1)", x.sum(1), 1);
        due.is("sum(2)", x.sum(2), 3);
        due.is("guest(0, 5)", x.guest(0, 5), 33);
        x.come(3, 118);
        due.is("over(): a by 7, b by 6, c by 10, d by 5", x.over(), 147);
        due.is("sum(3)", x.sum(3), 3 + 5 + 19 + 28);
        due.is("sum(0)", x.sum(0), 11 + 1 + 11 + 21 + 1 + 11 + 31 + 21 + 1 + 11);
        due.is("sum(1)", x.sum(1), 2);
        due.is("sum(2)", x.sum(2), 6);
        due.is("sum(4)", x.sum(4), -1);
        due.is("sum(-1)", x.sum(-1), -1);
        int[] rooms = {3, 2, 1, 0};
        int[] moves = {3, 2, 1, 0};
        for (int guest = 0; guest < 4; guest++) {
            due.is("guest(" + guest + ", 3)", x.guest(guest, 3), rooms[guest]);
            due.is("guest(" + guest + ", 4)", x.guest(guest, 4), moves[guest]);
            due.is("room(" + rooms[guest] + ", 2)", x.room(rooms[guest], 2), guest);
        }
        x.use(-1);
        x.leave(2, 200);
        x.come(2, 300);
        due.is("a gap ends the chain: guest(0, 3)", x.guest(0, 3), 3);
        due.is("a gap ends the chain: guest(1, 3)", x.guest(1, 3), 2);
        due.is("a gap ends the chain: guest(3, 3)", x.guest(3, 3), 1);
        due.is("moves go on behind leaving: guest(2, 4)", x.guest(2, 4), 1);
    }

    private static void leavingByRule() {
        String inn = "room 0 0;room 1 1;room 2 0;room 3 1;guest a trunk 50;guest b trunk 0 bath;"
                + "guest c trunk 20 ill;guest d trunk 10;rule trunk;rule stove*here;rule here=gap+1;";
        MoveInn x = due.inn(inn);
        for (int guest = 0; guest < 4; guest++) {
            x.come(guest, 0);
        }
        due.is("d, c, b, a", x.room(0, 2) * 1000 + x.room(1, 2) * 100 + x.room(2, 2) * 10 + x.room(3, 2), 3210);
        x.mark(0, false);
        int over = x.over();
        x.leave(3, 0);
        due.is("rule 0: a goes to 0, none is behind 3", x.room(0, 2), 0);
        due.is("room(3, 2)", x.room(3, 2), -1);
        due.is("over(): d out by 1 + 1, a by 1 + 6 + 5", x.over(), over + 2 + 12);
        x.mark(0, true);
        x.use(1);
        x.leave(3, 0);
        due.is("rule 1: no stove in 0", x.room(0, 2), -1);
        x.leave(2, 0);
        due.is("rule 1: a from 3 to 1, and then none", x.room(1, 2), 0);
        due.is("room(2, 2)", x.room(2, 2), 1);
        due.is("guest(0, 4)", x.guest(0, 4), 4);
        x.mark(0, true);
        x.use(2);
        int steps = x.sum(0);
        int spilt = x.sum(1);
        x.leave(3, 0);
        due.is("rule 2: all go on by one", x.room(0, 2) * 100 + x.room(1, 2) * 10 + x.room(2, 2), 210);
        due.is("room(3, 2)", x.room(3, 2), -1);
        due.is("sum(0)", x.sum(0) - steps, 1 + 11 + 11 + 11);
        due.is("sum(1)", x.sum(1) - spilt, 1);
        x.mark(0, true);
        x.use(-1);
        x.leave(0, 0);
        due.is("out of 3: steps by 4 and 30", x.sum(0) - steps, 34);
        due.is("guest(0, 3)", x.guest(0, 3), -1);
        x.leave(2, 0);
        due.is("no rule, gaps are kept", x.room(1, 2), -1);
        due.is("count(3)", x.count(3), 2);
    }

    private static void equalOnes() {
        MoveInn x = due.inn("room 0 0;room 0 0;room 0 0;guest a trunk 3;guest b trunk 3;guest c trunk 3;rule trunk;");
        x.come(0, 0);
        x.come(1, 0);
        x.come(2, 0);
        x.leave(2, 0);
        due.is("of equal ones the least room", x.room(0, 2) * 100 + x.room(1, 2) * 10 + x.room(2, 2), 99);
    }

    private static void notAboveZero() {
        MoveInn x = due.inn("room 0 0;room 0 0;room 0 0;guest a trunk 3;guest b trunk 4;guest c trunk 5;"
                + "rule trunk-4;rule 3-trunk;");
        x.come(0, 0);
        x.come(1, 0);
        x.come(2, 0);
        x.mark(0, false);
        x.leave(2, 0);
        due.is("0 and less move nobody", x.sum(2), 3);
        x.mark(0, true);
        x.use(1);
        x.leave(2, 0);
        due.is("0 and less move nobody", x.sum(2), 3);
        due.is("room(1, 2)", x.room(1, 2), 1);
        due.is("room(2, 2)", x.room(2, 2), 0);
    }

    private static void longStairs() {
        MoveInn x = due.inn("room 9 0;room 0 0;room 9 0;room 0 0;room 9 0;room 0 0;room 9 0;room 0 0;room 9 0;room 0 0;"
                + "guest a trunk 99;guest b trunk 99;guest c trunk 99;guest d trunk 99;guest e trunk 99;"
                + "guest f trunk 99;guest g trunk 99;guest h trunk 99;guest i trunk 99;guest j trunk 99;rule 1;");
        for (int guest = 0; guest < 10; guest++) {
            x.come(guest, 99999);
        }
        due.is("over()", x.over(), 99999 + 55 * 28);
        for (int i = 0; i < 45; i++) {
            x.leave(9, 99999);
            x.come(9, 99999);
        }
        due.is("count(9)", x.count(9), 100);
        due.is("over() of ten hundred goings", x.over(), 99999 + 55 * 28 + 90 * 10 * 28);
        due.is("sum(3)", x.sum(3), 55 * 28 + 90 * 10 * 28);
        due.is("where at the end", x.where(x.room(9, 2), 999999), 9);
    }
}
