/** Promises 1, 2, 6 to 8, 10, 11, 15 to 24: compartments, their settings and their pumps. */
public final class CompartmentTest {
    private static final Check CHECK = new Check("CompartmentTest");

    public static void main(String[] args) {
        promise1NewObject();
        promise2AddCompartment();
        promise6SetLeak();
        promise7SetPump();
        promise8Transfer();
        promise10SetPower();
        promise11SetLimit();
        promises15And16Counters();
        promises17To21Compartment();
        promise22WouldPump();
        promise23PumpAt();
        promise24MinutesUntilFull();
        CHECK.end();
    }

    private static void promise1NewObject() {
        BallastControl ship = new BallastControl();
        CHECK.due("new compartmentCount", ship.compartmentCount(), 0);
        CHECK.due("new pieceCount", ship.pieceCount(), 0);
        CHECK.due("new isAfloat", ship.isAfloat(), true);
        CHECK.due("new minute", ship.minute(), 0);
        CHECK.due("new stormCount", ship.stormCount(), 0);
        CHECK.due("new weight", ship.weight(), 0);
        CHECK.due("new trim", ship.trim(), 0);
        CHECK.due("new isBalanced", ship.isBalanced(), true);
        CHECK.due("new pumpedTotal", ship.pumpedTotal(), 0L);
        CHECK.due("new undoableCount", ship.undoableCount(), 0);
        CHECK.due("new isConsistent", ship.isConsistent(), true);
        CHECK.due("new formatStorms", ship.formatStorms(), 0);
    }

    private static void promise2AddCompartment() {
        BallastControl ship = new BallastControl();
        int[][] wrong = {
            {-10, 50}, {10, 50}, {0, 9}, {0, 201}, {Integer.MIN_VALUE, 50}, {0, Integer.MAX_VALUE}, {0, -50}};
        for (int[] pair : wrong) {
            CHECK.refused("addCompartment(" + pair[0] + ", " + pair[1] + ")", Check.ARGUMENT,
                    () -> ship.addCompartment(pair[0], pair[1]));
        }
        CHECK.due("count after refusals", ship.compartmentCount(), 0);
        int[][] right = {{-9, 10}, {9, 200}, {0, 100}, {0, 100}, {1, 11}, {-1, 199}, {8, 20}, {-8, 30}};
        for (int i = 0; i < right.length; i++) {
            CHECK.due("addCompartment", ship.addCompartment(right[i][0], right[i][1]), i);
            CHECK.due("arm", ship.arm(i), right[i][0]);
            CHECK.due("capacity", ship.capacity(i), right[i][1]);
        }
        CHECK.refused("a ninth compartment", Check.STATE, () -> ship.addCompartment(0, 50));
        CHECK.refused("a ninth compartment of a wrong arm", Check.ARGUMENT, () -> ship.addCompartment(10, 50));
        CHECK.refused("a ninth compartment of a wrong capacity", Check.ARGUMENT, () -> ship.addCompartment(0, 9));
        CHECK.due("count", ship.compartmentCount(), 8);
        CHECK.due("water at first", ship.water(7), 0);
        CHECK.due("leak at first", ship.leak(7), 0);
        CHECK.due("pump at first", ship.setPump(7, 1), 5);
    }

    private static void promise6SetLeak() {
        BallastControl ship = Check.shipWithArms(1, 2);
        CHECK.due("setLeak", ship.setLeak(1, 20), 0);
        CHECK.due("setLeak again", ship.setLeak(1, 0), 20);
        CHECK.due("setLeak to the same", ship.setLeak(1, 0), 0);
        ship.setLeak(1, 7);
        CHECK.due("leak(1)", ship.leak(1), 7);
        CHECK.due("leak(0)", ship.leak(0), 0);
        CHECK.refused("setLeak(2, 21)", Check.INDEX, () -> ship.setLeak(2, 21));
        CHECK.refused("setLeak(-1, 1)", Check.INDEX, () -> ship.setLeak(-1, 1));
        CHECK.refused("setLeak(8, 1)", Check.INDEX, () -> ship.setLeak(8, 1));
        CHECK.refused("setLeak(1, 21)", Check.ARGUMENT, () -> ship.setLeak(1, 21));
        CHECK.refused("setLeak(1, -1)", Check.ARGUMENT, () -> ship.setLeak(1, -1));
        CHECK.due("leak after refusals", ship.leak(1), 7);
    }

    private static void promise7SetPump() {
        BallastControl ship = Check.shipWithArms(1, 2);
        CHECK.due("setPump", ship.setPump(1, 20), 5);
        CHECK.due("setPump again", ship.setPump(1, 0), 20);
        CHECK.due("setPump of the other", ship.setPump(0, 3), 5);
        CHECK.refused("setPump(2, 21)", Check.INDEX, () -> ship.setPump(2, 21));
        CHECK.refused("setPump(-1, 1)", Check.INDEX, () -> ship.setPump(-1, 1));
        CHECK.refused("setPump(1, 21)", Check.ARGUMENT, () -> ship.setPump(1, 21));
        CHECK.refused("setPump(1, -1)", Check.ARGUMENT, () -> ship.setPump(1, -1));
        CHECK.due("setPump after refusals", ship.setPump(1, 1), 0);
        Check.fill(ship, 1, 4);
        CHECK.due("pump rate of 1 works", ship.pass(1), 1);
        CHECK.due("water", ship.water(1), 3);
    }

    private static void promise8Transfer() {
        BallastControl ship = new BallastControl();
        ship.addCompartment(-3, 200);
        ship.addCompartment(2, 30);
        Check.fill(ship, 0, 100);
        CHECK.due("transfer", ship.transfer(0, 1, 30), -3 * 70 + 2 * 30);
        CHECK.due("water of the source", ship.water(0), 70);
        CHECK.due("water of the target", ship.water(1), 30);
        CHECK.refused("above the capacity", Check.STATE, () -> ship.transfer(0, 1, 1));
        CHECK.due("all of it back", ship.transfer(1, 0, 30), -300);
        CHECK.refused("not so much water", Check.STATE, () -> ship.transfer(1, 0, 1));
        CHECK.refused("not so much water by 1", Check.STATE, () -> ship.transfer(0, 1, 101));
        CHECK.refused("the same", Check.STATE, () -> ship.transfer(0, 0, 1));
        CHECK.refused("no source", Check.INDEX, () -> ship.transfer(2, 0, 0));
        CHECK.refused("no target", Check.INDEX, () -> ship.transfer(0, 2, 0));
        CHECK.refused("negative target", Check.INDEX, () -> ship.transfer(0, -1, 1));
        CHECK.refused("amount 0", Check.ARGUMENT, () -> ship.transfer(0, 0, 0));
        CHECK.refused("amount 201", Check.ARGUMENT, () -> ship.transfer(0, 1, 201));
        CHECK.refused("amount below 0", Check.ARGUMENT, () -> ship.transfer(0, 1, -1));
        CHECK.refused("amount 200", Check.STATE, () -> ship.transfer(0, 1, 200));
        CHECK.due("water after refusals", ship.water(0), 100);
        BallastControl wide = new BallastControl();
        wide.addCompartment(9, 200);
        wide.addCompartment(-9, 200);
        Check.fill(wide, 0, 200);
        CHECK.due("a transfer beyond the trim limit", wide.transfer(0, 1, 200), -1800);
    }

    private static void promise10SetPower() {
        BallastControl ship = Check.shipWithArms(1, 2, 3);
        CHECK.due("power at first", ship.setPower(8), 2);
        CHECK.due("power then", ship.setPower(0), 8);
        CHECK.refused("setPower(9)", Check.ARGUMENT, () -> ship.setPower(9));
        CHECK.refused("setPower(-1)", Check.ARGUMENT, () -> ship.setPower(-1));
        CHECK.due("power after refusals", ship.setPower(1), 0);
        ship.setLeak(0, 10);
        ship.setLeak(1, 10);
        ship.setLeak(2, 10);
        ship.pass(1);
        CHECK.due("one pump ran", ship.pumpedTotal(), 5L);
        ship.setPower(3);
        ship.pass(1);
        CHECK.due("three pumps ran", ship.pumpedTotal(), 20L);
    }

    private static void promise11SetLimit() {
        BallastControl ship = new BallastControl();
        CHECK.due("limit at first", ship.setLimit(1), 5);
        CHECK.due("limit then", ship.setLimit(9), 1);
        CHECK.refused("setLimit(0)", Check.ARGUMENT, () -> ship.setLimit(0));
        CHECK.refused("setLimit(10)", Check.ARGUMENT, () -> ship.setLimit(10));
        CHECK.refused("setLimit(-5)", Check.ARGUMENT, () -> ship.setLimit(-5));
        CHECK.due("limit after refusals", ship.setLimit(5), 9);
    }

    private static void promises15And16Counters() {
        BallastControl ship = Check.shipWithArms(1, 2);
        CHECK.due("compartmentCount", ship.compartmentCount(), 2);
        ship.pass(120);
        ship.pass(1);
        CHECK.due("minute", ship.minute(), 121);
    }

    private static void promises17To21Compartment() {
        BallastControl ship = new BallastControl();
        ship.addCompartment(-4, 150);
        ship.addCompartment(7, 60);
        ship.setLeak(1, 13);
        Check.fill(ship, 0, 42);
        ship.load(0, 9);
        ship.load(1, 11);
        ship.load(0, 30);
        CHECK.due("arm", ship.arm(0), -4);
        CHECK.due("capacity", ship.capacity(1), 60);
        CHECK.due("water of 0", ship.water(0), 42);
        CHECK.due("water of 1", ship.water(1), 39);
        CHECK.due("leak", ship.leak(1), 13);
        CHECK.due("loadOf(0)", ship.loadOf(0), 81);
        CHECK.due("loadOf(1)", ship.loadOf(1), 50);
        for (int wrong : new int[] {-1, 2, 8, Integer.MIN_VALUE, Integer.MAX_VALUE}) {
            CHECK.refused("arm(" + wrong + ")", Check.INDEX, () -> ship.arm(wrong));
            CHECK.refused("capacity(" + wrong + ")", Check.INDEX, () -> ship.capacity(wrong));
            CHECK.refused("water(" + wrong + ")", Check.INDEX, () -> ship.water(wrong));
            CHECK.refused("leak(" + wrong + ")", Check.INDEX, () -> ship.leak(wrong));
            CHECK.refused("loadOf(" + wrong + ")", Check.INDEX, () -> ship.loadOf(wrong));
            CHECK.refused("wouldPump(" + wrong + ")", Check.INDEX, () -> ship.wouldPump(wrong));
            CHECK.refused("minutesUntilFull(" + wrong + ")", Check.INDEX, () -> ship.minutesUntilFull(wrong));
            CHECK.refused("formatCompartment(" + wrong + ")", Check.INDEX, () -> ship.formatCompartment(wrong));
            CHECK.refused("formatCargo(" + wrong + ")", Check.INDEX, () -> ship.formatCargo(wrong));
        }
    }

    /** Water 10, 30, 30, 0 and 40, of which the last has no pump. */
    private static BallastControl shipToPump() {
        BallastControl ship = Check.shipWithArms(1, 2, 3, 4, 5);
        Check.fill(ship, 0, 10);
        Check.fill(ship, 1, 30);
        Check.fill(ship, 2, 30);
        Check.fill(ship, 4, 40);
        ship.setPump(4, 0);
        return ship;
    }

    private static void promise22WouldPump() {
        BallastControl ship = shipToPump();
        boolean[] withTwo = {false, true, true, false, false};
        for (int c = 0; c < 5; c++) {
            CHECK.due("wouldPump(" + c + ") with power 2", ship.wouldPump(c), withTwo[c]);
        }
        ship.setPower(1);
        CHECK.due("wouldPump(1) with power 1", ship.wouldPump(1), true);
        CHECK.due("wouldPump(2) with power 1", ship.wouldPump(2), false);
        ship.setPower(0);
        CHECK.due("wouldPump(1) with power 0", ship.wouldPump(1), false);
        ship.setPower(8);
        CHECK.due("wouldPump(0) with power 8", ship.wouldPump(0), true);
        CHECK.due("wouldPump(3), without water", ship.wouldPump(3), false);
        CHECK.due("wouldPump(4), without a pump", ship.wouldPump(4), false);
    }

    private static void promise23PumpAt() {
        BallastControl ship = shipToPump();
        ship.setPower(0);
        CHECK.due("pumpAt(0)", ship.pumpAt(0), 1);
        CHECK.due("pumpAt(1)", ship.pumpAt(1), 2);
        CHECK.due("pumpAt(2)", ship.pumpAt(2), 0);
        for (int wrong : new int[] {-1, 3, 5, Integer.MIN_VALUE, Integer.MAX_VALUE}) {
            CHECK.refused("pumpAt(" + wrong + ")", Check.ELEMENT, () -> ship.pumpAt(wrong));
        }
        ship.setPump(4, 1);
        CHECK.due("pumpAt(0) with a pump in 4", ship.pumpAt(0), 4);
        CHECK.due("pumpAt(3) with a pump in 4", ship.pumpAt(3), 0);
    }

    private static void promise24MinutesUntilFull() {
        BallastControl ship = new BallastControl();
        ship.addCompartment(0, 20);
        CHECK.refused("without a leak", Check.ELEMENT, () -> ship.minutesUntilFull(0));
        ship.setLeak(0, 20);
        CHECK.due("in one minute", ship.minutesUntilFull(0), 1);
        ship.setLeak(0, 19);
        CHECK.due("rounded up", ship.minutesUntilFull(0), 2);
        ship.setLeak(0, 10);
        CHECK.due("in two minutes", ship.minutesUntilFull(0), 2);
        ship.setLeak(0, 1);
        CHECK.due("in twenty minutes", ship.minutesUntilFull(0), 20);
        Check.fill(ship, 0, 20);
        CHECK.due("full, without a leak", ship.minutesUntilFull(0), 0);
        ship.setLeak(0, 3);
        CHECK.due("full, with a leak", ship.minutesUntilFull(0), 0);
    }
}
