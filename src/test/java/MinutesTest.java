/** Promises 12 to 15: where, who, letter, trunk. */
public final class MinutesTest {
    private static final Due due = new Due();

    public static void main(String[] args) {
        MoveInn x = due.inn("room 0 0;room 1 0;guest a trunk 20;guest b trunk 10;guest c trunk 0;");
        x.come(0, 10);
        x.come(1, 12);
        x.leave(0, 30);
        // a: stairs 10 to 13, room 0 to 13, stairs 13 to 18, room 1 from 18 to 30, stairs 30 to 35, out.
        // b: out up to 18, stairs 18 to 20, room 0 from 20 on.
        where(x, 0, new int[] {0, 9, 10, 12, 13, 17, 18, 29, 30, 34, 35, 999999},
                new int[] {-1, -1, -2, -2, -2, -2, 1, 1, -2, -2, -1, -1});
        where(x, 1, new int[] {0, 12, 17, 18, 19, 20, 35, 999999}, new int[] {-1, -1, -1, -2, -2, 0, 0, 0});
        where(x, 2, new int[] {0, 999999}, new int[] {-1, -1});
        due.is("where(-1, 0)", x.where(-1, 0), -3);
        due.is("where(3, 0)", x.where(3, 0), -3);
        due.is("where(0, -1)", x.where(0, -1), -3);
        due.is("where(0, 1000000)", x.where(0, 1000000), -3);
        who(x);
        letters(x);
        trunks(x);
        roomsTakenAgain();
        due.end();
    }

    private static void where(MoveInn x, int guest, int[] minutes, int[] want) {
        for (int i = 0; i < minutes.length; i++) {
            due.is("where(" + guest + ", " + minutes[i] + ")", x.where(guest, minutes[i]), want[i]);
        }
    }

    private static void who(MoveInn x) {
        due.is("who(0, 13): gone at the minute of coming", x.who(0, 13), -1);
        due.is("who(0, 19)", x.who(0, 19), -1);
        due.is("who(0, 20)", x.who(0, 20), 1);
        due.is("who(0, 999999)", x.who(0, 999999), 1);
        due.is("who(0, 1000000)", x.who(0, 1000000), -1);
        due.is("who(0, -1)", x.who(0, -1), -1);
        due.is("who(1, 17)", x.who(1, 17), -1);
        due.is("who(1, 18)", x.who(1, 18), 0);
        due.is("who(1, 29)", x.who(1, 29), 0);
        due.is("who(1, 30)", x.who(1, 30), -1);
        due.is("who(2, 20)", x.who(2, 20), -1);
        due.is("who(-1, 20)", x.who(-1, 20), -1);
    }

    private static void letters(MoveInn x) {
        due.is("letter(0, 18, 29): found", x.letter(0, 18, 29), 0);
        due.is("letter(0, 18, 18): at once", x.letter(0, 18, 18), 0);
        due.is("letter(0, 18, 30): nobody", x.letter(0, 18, 30), -1);
        due.is("letter(0, 18, 17): less", x.letter(0, 18, 17), -1);
        due.is("letter(0, 17, 20): on the stairs", x.letter(0, 17, 20), -1);
        due.is("letter(0, 9, 20): out", x.letter(0, 9, 20), -1);
        due.is("letter(1, 20, 999999)", x.letter(1, 20, 999999), 1);
        due.is("letter(1, 20, 1000000)", x.letter(1, 20, 1000000), -1);
        due.is("letter(3, 20, 30)", x.letter(3, 20, 30), -1);
        due.is("letter(-1, 20, 30)", x.letter(-1, 20, 30), -1);
        due.is("letter(1, -1, 30)", x.letter(1, -1, 30), -1);
        x.come(2, 40);
        // b: room 0 to 1 from 40 to 44; c comes from 44 to 45.
        due.is("letter(1, 39, 44)", x.letter(1, 39, 44), -1);
        due.is("letter(1, 39, 45): astray", x.letter(1, 39, 45), 2);
        due.is("letter(0, 29, 44): astray", x.letter(0, 29, 44), 1);
    }

    private static void trunks(MoveInn x) {
        due.is("trunk(0, 0, 19)", x.trunk(0, 0, 19), 0);
        due.is("trunk(0, 0, 20)", x.trunk(0, 0, 20), 2);
        due.is("trunk(0, 20, 20)", x.trunk(0, 20, 20), 2);
        due.is("trunk(0, 39, 44)", x.trunk(0, 39, 44), 2);
        due.is("trunk(0, 40, 44)", x.trunk(0, 40, 44), 0);
        due.is("trunk(0, 40, 45)", x.trunk(0, 40, 45), 4);
        due.is("trunk(0, 0, 999999)", x.trunk(0, 0, 999999), 6);
        due.is("trunk(0, 999999, 999999)", x.trunk(0, 999999, 999999), 4);
        due.is("trunk(1, 0, 999999)", x.trunk(1, 0, 999999), 3);
        due.is("trunk(1, 29, 44)", x.trunk(1, 29, 44), 3);
        due.is("trunk(1, 30, 43)", x.trunk(1, 30, 43), 0);
        due.is("trunk(1, 18, 18)", x.trunk(1, 18, 18), 1);
        due.is("trunk(1, 17, 17)", x.trunk(1, 17, 17), 0);
        due.is("trunk(1, 18, 17)", x.trunk(1, 18, 17), -1);
        due.is("trunk(2, 0, 1)", x.trunk(2, 0, 1), -1);
        due.is("trunk(-1, 0, 1)", x.trunk(-1, 0, 1), -1);
        due.is("trunk(0, -1, 1)", x.trunk(0, -1, 1), -1);
        due.is("trunk(0, 0, 1000000)", x.trunk(0, 0, 1000000), -1);
    }

    private static void roomsTakenAgain() {
        MoveInn x = due.inn("room 0 0;guest a trunk 0;guest b trunk 0;");
        x.come(0, 10);
        x.leave(0, 20);
        x.come(0, 30);
        x.leave(0, 40);
        x.come(1, 50);
        x.leave(1, 60);
        due.is("trunk(0, 20, 30)", x.trunk(0, 20, 30), 0);
        due.is("trunk(0, 19, 30)", x.trunk(0, 19, 30), 1);
        due.is("trunk(0, 20, 31)", x.trunk(0, 20, 31), 1);
        due.is("trunk(0, 39, 51)", x.trunk(0, 39, 51), 3);
        due.is("trunk(0, 60, 100)", x.trunk(0, 60, 100), 0);
        due.is("letter(0, 15, 35): back again", x.letter(0, 15, 35), 0);
        due.is("letter(0, 15, 55)", x.letter(0, 15, 55), 1);
        due.is("letter(0, 15, 65)", x.letter(0, 15, 65), -1);
    }
}
