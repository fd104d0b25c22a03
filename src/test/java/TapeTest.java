/** Promises 1 to 3: a new object, feed, inn with its tokens and faults. */
public final class TapeTest {
    private static final Due due = new Due();

    public static void main(String[] args) {
        newObject();
        feed();
        innsThatAreRight();
        tokens();
        faultsOfRooms();
        faultsOfGuests();
        faultsOfRules();
        oneTooMany();
        aFaultLeavesAll();
        anInnBeginsAnew();
        manyLongInns();
        due.end();
    }

    private static void newObject() {
        MoveInn x = new MoveInn();
        for (int what = 0; what <= 10; what++) {
            due.is("new: count(" + what + ")", x.count(what), what == 4 ? -1 : 0);
        }
        due.is("new: room(0, 0)", x.room(0, 0), -1);
        due.is("new: guest(0, 0)", x.guest(0, 0), -1);
        due.is("new: where(0, 0)", x.where(0, 0), -3);
        due.is("new: who(0, 0)", x.who(0, 0), -1);
        due.is("new: come(0, 0)", x.come(0, 0), 1);
        due.is("new: leave(0, 0)", x.leave(0, 0), 1);
        due.is("new: page(0, 0)", x.page(0, 0), -1);
        due.is("new: ways()", x.ways(), 1);
        due.is("new: sure(0)", x.sure(0), -1);
        due.is("new: could(0, 0)", x.could(0, 0), -1);
        due.is("new: order(0, 0)", x.order(0, 0), -1);
        due.is("new: gives(0, 0, 0)", Due.gives(x, 0, 0, 0), Due.THROWS);
    }

    private static void feed() {
        MoveInn x = new MoveInn();
        due.is("feed of nothing", x.feed(0, 0, 0), 0);
        due.is("feed of signs that are none", x.feed(0x0900_0B1F_7F80_FFFEL, -1L, Long.MIN_VALUE), 0);
        due.is("feed of 10, 32, 126", x.feed(0x0A00_0000_0000_0000L, 0x20L, 0x7E00L), 3);
        due.is("inn() of them", x.inn(), 1 + 16 * 2);
        due.is("feed, the highest byte first", x.feed(Due.eight("room 1 0", 0), Due.eight(";", 0), 0), 9);
        due.is("inn()", x.inn(), 0);
        due.is("room(0, 0)", x.room(0, 0), 1);
        for (int i = 1; i <= 41; i++) {
            due.is("feed " + i, Due.feed(x, Due.repeat(" ", 24)), 24 * i);
        }
        due.is("feed up to 1,000", Due.feed(x, "#" + Due.repeat(" ", 23)), 1000);
        due.is("feed beyond 1,000", Due.feed(x, "#"), 1000);
        due.is("count(10)", x.count(10), 1000);
        due.is("inn() of 1,000 signs", x.inn(), 1 + 16 * 984);
        due.is("count(10)", x.count(10), 0);
        Due.feed(x, Due.repeat(" ", 999));
        due.is("the 1,000th and no more", Due.feed(x, ";;"), 1000);
        due.is("inn() of it", x.inn(), 1 + 16 * 999);
    }

    private static void innsThatAreRight() {
        due.fault("", 0, 0);
        due.fault(" \n ", 0, 0);
        due.fault("room 0 0;", 0, 0);
        due.fault("room0 0;room9 1;", 0, 0);
        due.fault("room 0009 0001 ;", 0, 0);
        due.fault("guest a trunk0bath ill;guest b trunk 99ill bath;guest c trunk 0009;", 0, 0);
        due.fault("rule ((((1))));", 0, 0);
        due.fault("rule not not not not 1;", 0, 0);
        due.fault("rule not(not(trunk))*bath+ill-here<gap and floors=stove or moved;", 0, 0);
        due.fault("rule 9999;rule 0000;", 0, 0);
        due.fault("guest here trunk 1;guest gap trunk 1;guest floors trunk 1;guest stove trunk 1;guest moved trunk 1;",
                0, 0);
        due.fault("guest abcdefgh trunk 1;guest abcdefg trunk 1;guest bbcdefgh trunk 1;", 0, 0);
        due.fault("guest ab trunk 1;guest ba trunk 1;guest aab trunk 1;guest aba trunk 1;guest z trunk 1;", 0, 0);
        due.fault("rule 1;room 0 0;guest x trunk 1;room 0 0;rule 1;", 0, 0);
    }

    private static void tokens() {
        due.fault("abcdefghi", 1, 0);
        due.fault("room 12345", 1, 5);
        due.fault("room 0 12345", 1, 7);
        due.fault("guest abcdefghi trunk", 1, 6);
        due.fault("guest a trunk 12345", 1, 14);
        due.fault("rule 12345;", 1, 5);
        due.fault("Room 0 0;", 1, 0);
        due.fault("room 0 0 ,", 1, 9);
        due.fault("rule 1 > 2;", 1, 7);
        due.fault("rule 1a;", 1, 6);
        due.fault("rule a1;", 1, 5);
        due.fault("rooms 0 0;", 1, 0);
        due.fault("ro om 0 0;", 1, 0);
        due.fault("room 0 0 ; #", 1, 11);
        due.fault("  #", 1, 2);
        due.fault("room 0 0 0;", 1, 9);
        due.fault(";", 1, 0);
        due.fault("room 0 0;;", 1, 9);
    }

    private static void faultsOfRooms() {
        due.fault("room", 1, 4);
        due.fault("room  ", 1, 6);
        due.fault("room ;", 1, 5);
        due.fault("room a", 1, 5);
        due.fault("room 10", 4, 5);
        due.fault("room 9999 5", 4, 5);
        due.fault("room 0 2;", 4, 7);
        due.fault("room 0;", 1, 6);
        due.fault("room 0 1", 1, 8);
        due.fault("room 0 1 room 0 1;", 1, 9);
    }

    private static void faultsOfGuests() {
        due.fault("guest", 1, 5);
        due.fault("guest 1", 1, 6);
        for (String kept : new String[] {"room", "guest", "trunk", "bath", "ill", "rule", "not", "and", "or"}) {
            due.fault("guest " + kept + " trunk 1;", 1, 6);
        }
        due.fault("guest a", 1, 7);
        due.fault("guest a 5;", 1, 8);
        due.fault("guest a bath;", 1, 8);
        due.fault("guest a trunk;", 1, 13);
        due.fault("guest a trunk 100;", 4, 14);
        due.fault("guest a trunk 1 a;", 1, 16);
        due.fault("guest a trunk 1 bath bath;", 3, 21);
        due.fault("guest a trunk 1 ill ill;", 3, 20);
        due.fault("guest a trunk 1 ill bath ill", 3, 25);
        due.fault("guest a trunk 1 bath ill bath", 3, 25);
        due.fault("guest a trunk 1 bath ill 1", 1, 25);
        due.fault("guest a trunk 1 trunk", 1, 16);
        due.fault("guest a trunk 1;guest a", 3, 22);
        due.fault("guest a trunk 1;guest b trunk 1;guest a trunk 1;", 3, 38);
        due.fault("guest a trunk 1 ill", 1, 19);
    }

    private static void faultsOfRules() {
        due.fault("rule", 1, 4);
        due.fault("rule ;", 1, 5);
        due.fault("rule 1", 1, 6);
        due.fault("rule 1 1;", 1, 7);
        due.fault("rule +1;", 1, 5);
        due.fault("rule 1+;", 1, 7);
        due.fault("rule 1+-1;", 1, 7);
        due.fault("rule 1*;", 1, 7);
        due.fault("rule 1<2<3;", 1, 8);
        due.fault("rule 1=2<3;", 1, 8);
        due.fault("rule 1<2=3;", 1, 8);
        due.fault("rule (1<2)<3 and 1=(2=3);", 0, 0);
        due.fault("rule 1<2 and 3<4 or 5=6;", 0, 0);
        due.fault("rule and 1;", 1, 5);
        due.fault("rule 1 and;", 1, 10);
        due.fault("rule 1 or or 1;", 1, 10);
        due.fault("rule 1 not 1;", 1, 7);
        due.fault("rule not;", 1, 8);
        due.fault("rule not and;", 1, 9);
        due.fault("rule (1;", 1, 7);
        due.fault("rule (1", 1, 7);
        due.fault("rule ();", 1, 6);
        due.fault("rule 1);", 1, 6);
        due.fault("rule (1));", 1, 8);
        due.fault("rule (1 1);", 1, 8);
        due.fault("rule room;", 1, 5);
        due.fault("rule steps;", 1, 5);
        due.fault("guest al trunk 1; rule al;", 1, 23);
    }

    private static void oneTooMany() {
        due.fault("rule not not not not not", 1, 24);
        due.fault("rule not not not not not;", 1, 24);
        due.fault("rule not not not not not 1;", 5, 25);
        due.fault("rule not not not not not ill;", 5, 25);
        due.fault("rule not not not not not not", 5, 25);
        due.fault("rule not not not not not (", 5, 25);
        due.fault("rule not not not not not guest", 1, 25);
        due.fault("rule not not not not not 12345", 1, 25);
        due.fault("rule not not not not not )", 1, 25);
        due.fault("rule (((((1)))));", 5, 10);
        due.fault("rule ((((((", 5, 10);
        due.fault("rule (((((not", 5, 10);
        due.fault("rule (((((;", 1, 10);
        due.fault("rule (((((", 1, 10);
        due.fault("rule not(not(1))+not(not(1))*not not not not 1 < ((((1))));", 0, 0);
        due.fault("rule (not(not 1+not not 1));", 5, 24);
        due.fault("rule (not(not 1+not 1)+(((1))));", 0, 0);
        due.fault(Due.repeat("room 0 0;", 10), 0, 0);
        due.fault(Due.repeat("room 0 0;", 10) + "room", 5, 90);
        due.fault(Due.repeat("room 0 0;", 10) + " room x", 5, 91);
        due.fault(Due.repeat("rule 1;", 4), 0, 0);
        due.fault(Due.repeat("rule 1;", 4) + "rule", 5, 28);
        StringBuilder guests = new StringBuilder();
        for (char name = 'a'; name < 'k'; name++) {
            guests.append("guest ").append(name).append(" trunk 1;");
        }
        due.fault(guests.toString(), 0, 0);
        due.fault(guests + "guest a", 5, guests.length());
        due.fault(guests + "guest", 5, guests.length());
    }

    private static void aFaultLeavesAll() {
        MoveInn x = due.inn("room 0 1;room 2 0;guest a trunk 15;guest b trunk 0 bath;rule 1;rule ill;");
        x.come(0, 5);
        x.use(1);
        x.sight(0, 0, 7);
        x.page(0, 3);
        x.job(1, 1, 1);
        x.book(1);
        x.mark(2, false);
        due.is("a fault", Due.read(x, "room 5 1;guest q trunk 7;rule 0;rule 0;rule 0;x"), 1 + 16 * 46);
        int[] due31 = {2, 2, 2, 1, 1, 1, 1, 1, 1, 1, 0};
        for (int what = 0; what < due31.length; what++) {
            due.is("behind a fault: count(" + what + ")", x.count(what), due31[what]);
        }
        due.is("behind a fault: room(1, 0)", x.room(1, 0), 2);
        due.is("behind a fault: guest(0, 0)", x.guest(0, 0), 15);
        due.is("behind a fault: where(0, 7)", x.where(0, 7), 0);
        due.is("behind a fault: gives(0, 0, 1)", Due.gives(x, 0, 0, 1), 1);
        due.is("behind a fault: mark(2, true)", x.mark(2, true), true);
    }

    private static void manyLongInns() {
        MoveInn x = new MoveInn();
        for (int i = 0; i < 11; i++) {
            String rule = Due.repeat("1+", 460) + i;
            String inn = "room 0 0;room 0 0;guest a trunk 0;rule " + rule + ";rule 7;";
            due.is("inn() of a long rule", Due.read(x, inn), 0);
            x.come(0, 0);
            due.is("gives(0, 0, 1) of a long rule", Due.gives(x, 0, 0, 1), 460 + i);
            due.is("gives(1, 0, 1) behind a long rule", Due.gives(x, 1, 0, 1), 7);
        }
    }

    private static void anInnBeginsAnew() {
        MoveInn x = due.inn("room 0 1;room 2 0;guest a trunk 15;guest b trunk 0 bath;rule 1;rule ill;");
        x.come(0, 500);
        x.come(1, 600);
        x.leave(1, 600);
        x.use(1);
        x.sight(0, 0, 7);
        x.page(0, 3);
        x.job(1, 1, 1);
        x.book(1);
        x.mark(2, false);
        due.is("a new inn", Due.read(x, "room 0 0;guest b trunk 1;guest a trunk 2;rule 5;"), 0);
        int[] due31 = {1, 2, 1, 0, 0, 0, 0, 0, 0, 0, 0};
        for (int what = 0; what < due31.length; what++) {
            due.is("in a new inn: count(" + what + ")", x.count(what), due31[what]);
        }
        for (int what = 0; what < 4; what++) {
            due.is("in a new inn: sum(" + what + ")", x.sum(what), 0);
        }
        due.is("in a new inn: over()", x.over(), 0);
        due.is("in a new inn: mark(2, true)", x.mark(2, true), false);
        due.is("in a new inn: where(0, 999999)", x.where(0, 999999), -1);
        due.is("in a new inn: guest(0, 4)", x.guest(0, 4), 0);
        due.is("in a new inn: guest(0, 5)", x.guest(0, 5), 0);
        due.is("in a new inn: tried(0, 0)", x.tried(0, 0), 0);
        due.is("in a new inn: tried(0, 2)", x.tried(0, 2), 0);
        due.is("in a new inn: ways()", x.ways(), 1);
        due.is("in a new inn: come(0, 0)", x.come(0, 0), 0);
        due.is("an inn of nothing", x.inn(), 0);
        due.is("in an inn of nothing: count(0)", x.count(0), 0);
        due.is("in an inn of nothing: count(4)", x.count(4), -1);
    }
}
