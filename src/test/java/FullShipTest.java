/** Promises 2, 3, 12, 14, 22, 23, 26, 30 to 33, 37 to 45, 49, 53, 55 and 56 with as many of each as can be. */
public final class FullShipTest {
    private static final Check CHECK = new Check("FullShipTest");

    public static void main(String[] args) {
        asManyAsCanBe();
        allPumpsAndAllLeaks();
        CHECK.end();
    }

    /** Compartments 0 to 7 with 8, 7 .. 1 tonnes of water, and two pieces in each, ids 0 to 15. */
    private static BallastControl fullShip() {
        BallastControl ship = Check.shipWithArms(-8, -6, -4, -2, 2, 4, 6, 8);
        for (int i = 0; i < 8; i++) {
            Check.fill(ship, i, 8 - i);
        }
        for (int i = 0; i < 16; i++) {
            ship.load(i % 8, 1 + i / 8);
        }
        return ship;
    }

    private static void asManyAsCanBe() {
        BallastControl ship = fullShip();
        int[] storms = {11, 9, 13, 10, 14, 12};
        for (int storm : storms) {
            ship.schedule(storm, 1);
        }
        CHECK.due("formatStorms", ship.formatStorms(), "9!1 10!1 11!1 12!1 13!1 14!1".length());
        CHECK.due("the last storm", Check.line(ship, 28).substring(24), "14!1");
        CHECK.due("formatCargo", ship.formatCargo(7), "7*1,15*2".length());
        CHECK.due("weight", ship.weight(), 36 + 24);
        CHECK.due("weightByParts", ship.weightByParts(), 36 + 24);
        CHECK.due("moment", ship.moment(), -8 * 8 - 6 * 7 - 4 * 6 - 2 * 5 + 2 * 4 + 4 * 3 + 6 * 2 + 8);
        CHECK.due("momentByParts", ship.momentByParts(), ship.moment());
        CHECK.due("idAt(15)", ship.idAt(15), 15);
        CHECK.due("heaviestPiece", ship.heaviestPiece(), 8);
        CHECK.due("pumpAt(7)", ship.pumpAt(7), 7);
        CHECK.refused("pumpAt(8)", Check.ELEMENT, () -> ship.pumpAt(8));
        CHECK.due("compartmentByLoad(7)", ship.compartmentByLoad(7), 7);
        CHECK.refused("compartmentByLoad(8)", Check.ELEMENT, () -> ship.compartmentByLoad(8));
        CHECK.due("bestSource", ship.bestSource(8), 0);
        CHECK.due("bestTarget", ship.bestTarget(8), 5);
        CHECK.due("bestMoment", ship.bestMoment(8), -100 + 8 * 12);
        CHECK.due("bestShiftPiece", ship.bestShiftPiece(), 8);
        CHECK.due("bestShiftCompartment", ship.bestShiftCompartment(), 7);
        CHECK.due("isConsistent", ship.isConsistent(), true);
        CHECK.refused("minutesUntilSunk", Check.ELEMENT, () -> ship.minutesUntilSunk());
        CHECK.due("save", ship.save(), 8);
        ship.setPower(0);
        CHECK.due("pass", ship.pass(20), 20);
        CHECK.due("all storms hit the same", ship.leak(0), 6);
        CHECK.due("the log", ship.loggedMinute(0) * 100 + ship.loggedMinute(5), 1409);
        CHECK.due("restore", ship.restore(), 8);
        CHECK.due("pieces", ship.pieceCount(), 16);
        CHECK.due("storms", ship.stormCount(), 6);
    }

    private static void allPumpsAndAllLeaks() {
        BallastControl ship = fullShip();
        for (int i = 0; i < 8; i++) {
            ship.setLeak(i, 1 + i);
            ship.setPump(i, 2);
            CHECK.due("wouldPump(" + i + ")", ship.wouldPump(i), i < 2);
        }
        ship.setPower(8);
        CHECK.due("momentAfter(1)", ship.momentAfter(1),
                ship.moment() + 8 - 0 - 4 * 1 - 2 * 2 + 2 * 3 + 4 * 4 + 6 * 5 + 8 * 6);
        ship.pass(1);
        for (int i = 0; i < 8; i++) {
            CHECK.due("water(" + i + ")", ship.water(i), 8 - i + 1 + i - 2);
        }
        CHECK.due("pumpedTotal", ship.pumpedTotal(), 16L);
    }
}
