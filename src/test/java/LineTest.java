/** Promises 54 to 57: the formatted line. */
public final class LineTest {
    private static final Check CHECK = new Check("LineTest");

    public static void main(String[] args) {
        promise54FormatCompartment();
        promise55FormatCargo();
        promise56FormatStorms();
        promise57LineChar();
        CHECK.end();
    }

    private static void dueLine(BallastControl ship, String what, int length, String want) {
        CHECK.due("length of " + what, length, want.length());
        CHECK.due(what, Check.line(ship, want.length()), want);
        CHECK.refused("the end of " + what, Check.INDEX, () -> ship.lineChar(want.length()));
    }

    private static void promise54FormatCompartment() {
        BallastControl ship = Check.shipWithArms(-3, 9, 0);
        Check.fill(ship, 0, 40);
        ship.load(0, 20);
        ship.load(0, 5);
        ship.setLeak(0, 7);
        dueLine(ship, "compartment 0", ship.formatCompartment(0), "C0 a-3 40/100 +25 l7");
        dueLine(ship, "compartment 1", ship.formatCompartment(1), "C1 a9 0/100 +0");
        ship.setLeak(1, 1);
        dueLine(ship, "compartment 1 with a leak", ship.formatCompartment(1), "C1 a9 0/100 +0 l1");
        ship.setLeak(2, 20);
        dueLine(ship, "compartment 2", ship.formatCompartment(2), "C2 a0 0/100 +0 l20");
        CHECK.refused("compartment 3", Check.INDEX, () -> ship.formatCompartment(3));
        CHECK.due("the line stays after a refusal", Check.line(ship, 18), "C2 a0 0/100 +0 l20");
    }

    private static void promise55FormatCargo() {
        BallastControl ship = Check.shipWithArms(1, 2);
        dueLine(ship, "no cargo", ship.formatCargo(0), "");
        ship.load(0, 50);
        ship.load(1, 7);
        ship.load(0, 8);
        dueLine(ship, "cargo of 0", ship.formatCargo(0), "0*50,2*8");
        dueLine(ship, "cargo of 1", ship.formatCargo(1), "1*7");
        ship.unload(0);
        ship.shift(1, 0);
        ship.load(0, 9);
        dueLine(ship, "cargo of 0 then", ship.formatCargo(0), "1*7,2*8,3*9");
        dueLine(ship, "cargo of 1 then", ship.formatCargo(1), "");
        CHECK.refused("cargo of 2", Check.INDEX, () -> ship.formatCargo(2));
    }

    private static void promise56FormatStorms() {
        BallastControl ship = new BallastControl();
        dueLine(ship, "no storms", ship.formatStorms(), "");
        ship.schedule(120, 9);
        dueLine(ship, "one storm", ship.formatStorms(), "120!9");
        ship.schedule(7, 1);
        ship.schedule(30, 4);
        dueLine(ship, "three storms", ship.formatStorms(), "7!1 30!4 120!9");
        ship.pass(7);
        dueLine(ship, "two storms", ship.formatStorms(), "30!4 120!9");
    }

    private static void promise57LineChar() {
        BallastControl ship = Check.shipWithArms(-1);
        CHECK.refused("lineChar(0) at first", Check.INDEX, () -> ship.lineChar(0));
        ship.formatCompartment(0);
        CHECK.due("lineChar(0)", ship.lineChar(0), 'C');
        CHECK.due("lineChar(4)", ship.lineChar(4), '-');
        for (int wrong : new int[] {-1, 15, Integer.MAX_VALUE, Integer.MIN_VALUE}) {
            CHECK.refused("lineChar(" + wrong + ")", Check.INDEX, () -> ship.lineChar(wrong));
        }
        ship.formatStorms();
        CHECK.refused("lineChar(0) of an empty line", Check.INDEX, () -> ship.lineChar(0));
    }
}
