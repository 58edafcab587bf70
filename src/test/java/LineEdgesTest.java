/**
 * The sentences of promises 54 to 57 that name a boundary, each with a test of its own that stands below the sentence.
 * What is refused, and that it changes nothing, is in RefusalTest.
 */
public final class LineEdgesTest {
    private static final Check CHECK = new Check("LineEdgesTest");

    public static void main(String[] args) {
        emptyAtFirst();
        eachFormatReplacesTheLine();
        leakOnlyAboveNone();
        shortestAndLongestCompartment();
        cargoOfOtherCompartmentsIsLeftOut();
        cargoOfNoneOneAndSixteenPieces();
        cargoInTheOrderOfIds();
        stormsOfNoneOneAndSix();
        stormsInTheOrderOfMinutes();
        indexOfTheLine();
        lineStaysUntilTheNextFormat();
        CHECK.end();
    }

    private static void dueLine(BallastControl ship, int length, String want) {
        CHECK.due("length of '" + want + "'", length, want.length());
        for (int i = 0; i < want.length(); i++) {
            CHECK.due("lineChar(" + i + ") of '" + want + "'", ship.lineChar(i), want.charAt(i));
        }
        CHECK.refused("beyond '" + want + "'", Check.INDEX, () -> ship.lineChar(want.length()));
        CHECK.refused("before '" + want + "'", Check.INDEX, () -> ship.lineChar(-1));
    }

    /** "a character of the line, which is empty at first". */
    private static void emptyAtFirst() {
        BallastControl ship = new BallastControl();
        CHECK.refused("lineChar(0)", Check.INDEX, () -> ship.lineChar(0));
        ship.addCompartment(1, 10);
        ship.schedule(1, 1);
        CHECK.refused("lineChar(0) before any format", Check.INDEX, () -> ship.lineChar(0));
    }

    /** "replacing the previous line": a longer one and a shorter one, also by an empty one. */
    private static void eachFormatReplacesTheLine() {
        BallastControl ship = Ships.rich();
        dueLine(ship, ship.formatStorms(), "12!2 16!4");
        dueLine(ship, ship.formatCompartment(1), "C1 a6 49/100 +30 l4");
        dueLine(ship, ship.formatCargo(0), "0*20");
        dueLine(ship, ship.formatCompartment(2), "C2 a2 10/10 +0");
        dueLine(ship, ship.formatCargo(2), "");
        dueLine(ship, ship.formatStorms(), "12!2 16!4");
        dueLine(ship, ship.formatCargo(1), "2*30");
        ship.cancelStorm(12);
        ship.cancelStorm(16);
        dueLine(ship, ship.formatStorms(), "");
        dueLine(ship, ship.formatStorms(), "");
    }

    /** "if the leak rate is greater than 0, " l" and the leak rate". */
    private static void leakOnlyAboveNone() {
        BallastControl ship = Check.shipWithArms(3);
        dueLine(ship, ship.formatCompartment(0), "C0 a3 0/100 +0");
        ship.setLeak(0, 1);
        dueLine(ship, ship.formatCompartment(0), "C0 a3 0/100 +0 l1");
        ship.setLeak(0, 20);
        dueLine(ship, ship.formatCompartment(0), "C0 a3 0/100 +0 l20");
        ship.setLeak(0, 0);
        dueLine(ship, ship.formatCompartment(0), "C0 a3 0/100 +0");
    }

    /** "C", the number, " a", the arm, " ", the water, "/", the capacity, " +", the weight of its cargo". */
    private static void shortestAndLongestCompartment() {
        BallastControl ship = new BallastControl();
        for (int i = 0; i < 7; i++) {
            ship.addCompartment(0, 10);
        }
        dueLine(ship, ship.formatCompartment(0), "C0 a0 0/10 +0");
        ship.addCompartment(-9, 200);
        Check.fill(ship, 7, 200);
        for (int i = 0; i < 14; i++) {
            ship.load(7, 50);
        }
        ship.setLeak(7, 20);
        dueLine(ship, ship.formatCompartment(7), "C7 a-9 200/200 +700 l20");
        dueLine(ship, ship.formatCompartment(6), "C6 a0 0/10 +0");
        CHECK.refused("the number of compartments", Check.INDEX, () -> ship.formatCompartment(8));
    }

    /** "Formats the cargo of a compartment". */
    private static void cargoOfOtherCompartmentsIsLeftOut() {
        BallastControl ship = Check.shipWithArms(1, 2, 3);
        ship.load(1, 5);
        ship.load(0, 6);
        ship.load(2, 7);
        ship.load(1, 8);
        dueLine(ship, ship.formatCargo(0), "1*6");
        dueLine(ship, ship.formatCargo(1), "0*5,3*8");
        dueLine(ship, ship.formatCargo(2), "2*7");
    }

    /** "for each piece", "with a comma between two pieces". */
    private static void cargoOfNoneOneAndSixteenPieces() {
        BallastControl ship = Check.shipWithArms(1);
        dueLine(ship, ship.formatCargo(0), "");
        StringBuilder want = new StringBuilder();
        for (int i = 0; i < 16; i++) {
            ship.load(0, 50 - i);
            want.append(i == 0 ? "" : ",").append(i).append('*').append(50 - i);
            dueLine(ship, ship.formatCargo(0), want.toString());
        }
        for (int i = 0; i < 100; i++) {
            ship.unload(ship.idAt(15));
            ship.load(0, 1);
        }
        for (int i = 0; i < 15; i++) {
            ship.unload(i);
        }
        dueLine(ship, ship.formatCargo(0), "115*1");
    }

    /** "in the order of ids", wherever the pieces have been. */
    private static void cargoInTheOrderOfIds() {
        BallastControl ship = Check.shipWithArms(1, 2);
        for (int i = 0; i < 4; i++) {
            ship.load(0, 10 + i);
        }
        for (int id : new int[] {3, 1, 2, 0}) {
            ship.shift(id, 1);
        }
        dueLine(ship, ship.formatCargo(1), "0*10,1*11,2*12,3*13");
        ship.unload(1);
        ship.load(1, 1);
        dueLine(ship, ship.formatCargo(1), "0*10,2*12,3*13,4*1");
    }

    /** "for each storm", "with a blank between two storms". */
    private static void stormsOfNoneOneAndSix() {
        BallastControl ship = new BallastControl();
        dueLine(ship, ship.formatStorms(), "");
        StringBuilder want = new StringBuilder();
        for (int i = 1; i <= 6; i++) {
            ship.schedule(i * 166, 10 - i);
            want.append(i == 1 ? "" : " ").append(i * 166).append('!').append(10 - i);
            dueLine(ship, ship.formatStorms(), want.toString());
        }
        CHECK.refused("a seventh", Check.STATE, () -> ship.schedule(1, 1));
        dueLine(ship, ship.formatStorms(), want.toString());
    }

    /** "in the order of minutes", in whatever order they were scheduled. */
    private static void stormsInTheOrderOfMinutes() {
        BallastControl ship = new BallastControl();
        for (int minute : new int[] {30, 9, 100, 10, 99, 1}) {
            ship.schedule(minute, 1 + minute % 9);
        }
        dueLine(ship, ship.formatStorms(), "1!2 9!1 10!2 30!4 99!1 100!2");
        ship.pass(9);
        dueLine(ship, ship.formatStorms(), "10!2 30!4 99!1 100!2");
        ship.cancelStorm(99);
        dueLine(ship, ship.formatStorms(), "10!2 30!4 100!2");
    }

    /** "if the index is negative or not less than the length of the line". */
    private static void indexOfTheLine() {
        BallastControl ship = Check.shipWithArms(-3);
        int length = ship.formatCompartment(0);
        CHECK.due("the first", ship.lineChar(0), 'C');
        CHECK.due("the last", ship.lineChar(length - 1), '0');
        for (int wrong : new int[] {-1, length, length + 1, Integer.MIN_VALUE, Integer.MAX_VALUE}) {
            CHECK.refused("lineChar(" + wrong + ")", Check.INDEX, () -> ship.lineChar(wrong));
        }
    }

    /** "Formats ... into the line": only a format changes it. */
    private static void lineStaysUntilTheNextFormat() {
        BallastControl ship = Check.shipWithArms(1, 2);
        ship.load(0, 5);
        int length = ship.formatCargo(0);
        ship.load(0, 6);
        ship.unload(0);
        ship.undo();
        Check.run(ship, "load 0 7");
        ship.pass(1);
        ship.save();
        ship.restore();
        CHECK.refused("no compartment", Check.INDEX, () -> ship.formatCargo(2));
        CHECK.refused("no compartment", Check.INDEX, () -> ship.formatCompartment(-1));
        dueLine(ship, length, "0*5");
    }
}
