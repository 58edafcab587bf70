/**
 * The sentences of 'Compartments' and of promises 1, 2, 6 to 8, 10, 11 and 15 to 24 that name a boundary, each with a
 * test of its own that stands below the sentence. What is refused, and that it changes nothing, is in RefusalTest.
 */
public final class CompartmentEdgesTest {
    private static final Check CHECK = new Check("CompartmentEdgesTest");

    public static void main(String[] args) {
        newShip();
        atMostEightCompartments();
        numberedInTheOrderOfAdding();
        armsFromMinusNineToNine();
        capacitiesFromTenToTwoHundred();
        waterInitiallyNone();
        leaksFromNoneToTwenty();
        pumpsFromNoneToTwenty();
        powerFromNoneToEight();
        limitsFromOneToNine();
        transfersFromOneToTwoHundred();
        transferOfAllTheWater();
        transferUpToTheCapacity();
        transferNeedsTwoCompartments();
        transferWhateverTheTrimAndWhenSunk();
        transferReturnsTheMoment();
        wouldPumpWithTheWaterAsItIsNow();
        wouldPumpUpToThePower();
        pumpRanksWhateverThePower();
        pumpRanksOfEqualWater();
        fullNow();
        neverFull();
        smallestNumberOfMinutesUntilFull();
        onlyLeaksWorkUntilFull();
        CHECK.end();
    }

    /** "Creates a ship without compartments and cargo, which is afloat." */
    private static void newShip() {
        BallastControl ship = new BallastControl();
        CHECK.due("compartmentCount", ship.compartmentCount(), 0);
        CHECK.due("pieceCount", ship.pieceCount(), 0);
        CHECK.due("isAfloat", ship.isAfloat(), true);
        CHECK.due("weight", ship.weight(), 0);
        CHECK.due("weightByParts", ship.weightByParts(), 0);
        CHECK.due("moment", ship.moment(), 0);
        CHECK.due("momentByParts", ship.momentByParts(), 0);
        CHECK.due("momentAfter(120)", ship.momentAfter(120), 0);
        CHECK.refused("water(0)", Check.INDEX, () -> ship.water(0));
        CHECK.refused("unload(0)", Check.ELEMENT, () -> ship.unload(0));
    }

    /** "At most 8 compartments exist" and "Throws IllegalStateException if there are 8 compartments". */
    private static void atMostEightCompartments() {
        BallastControl ship = Check.shipWithArms(0, 1, 2, 3, 4, 5, 6);
        CHECK.due("the eighth", ship.addCompartment(7, 10), 7);
        CHECK.refused("the ninth", Check.STATE, () -> ship.addCompartment(8, 10));
        CHECK.refused("the ninth by a command", Check.STATE, () -> Check.run(ship, "tank 8 10"));
        CHECK.due("the count", ship.compartmentCount(), 8);
        ship.undo();
        CHECK.due("the eighth once more", ship.addCompartment(-7, 20), 7);
        CHECK.due("its arm", ship.arm(7), -7);
    }

    /** "numbered from 0 in the order in which they were added" and "Returns the number of the compartment." */
    private static void numberedInTheOrderOfAdding() {
        BallastControl ship = new BallastControl();
        for (int i = 0; i < 8; i++) {
            CHECK.due("the number", ship.addCompartment(9 - i, 200 - i), i);
            CHECK.due("compartmentCount", ship.compartmentCount(), i + 1);
        }
        for (int i = 0; i < 8; i++) {
            CHECK.due("arm(" + i + ")", ship.arm(i), 9 - i);
            CHECK.due("capacity(" + i + ")", ship.capacity(i), 200 - i);
        }
    }

    /** "an arm from -9 to 9 metres". */
    private static void armsFromMinusNineToNine() {
        BallastControl ship = new BallastControl();
        CHECK.due("the least", ship.arm(ship.addCompartment(-9, 50)), -9);
        CHECK.due("the greatest", ship.arm(ship.addCompartment(9, 50)), 9);
        CHECK.due("none", ship.arm(ship.addCompartment(0, 50)), 0);
        CHECK.refused("one less", Check.ARGUMENT, () -> ship.addCompartment(-10, 50));
        CHECK.refused("one more", Check.ARGUMENT, () -> ship.addCompartment(10, 50));
    }

    /** "a capacity for water from 10 to 200 tonnes". */
    private static void capacitiesFromTenToTwoHundred() {
        BallastControl ship = new BallastControl();
        CHECK.due("the least", ship.capacity(ship.addCompartment(1, 10)), 10);
        CHECK.due("the greatest", ship.capacity(ship.addCompartment(1, 200)), 200);
        CHECK.refused("one less", Check.ARGUMENT, () -> ship.addCompartment(1, 9));
        CHECK.refused("one more", Check.ARGUMENT, () -> ship.addCompartment(1, 201));
        ship.setPower(0);
        ship.setLeak(0, 20);
        ship.setLeak(1, 20);
        ship.pass(120);
        CHECK.due("the least is filled", ship.water(0), 10);
        CHECK.due("the greatest is filled", ship.water(1), 200);
    }

    /** "an amount of water, initially 0", also where a compartment with water was taken back. */
    private static void waterInitiallyNone() {
        BallastControl ship = new BallastControl();
        ship.save();
        ship.addCompartment(1, 50);
        CHECK.due("at first", ship.water(0), 0);
        ship.setLeak(0, 20);
        ship.setPump(0, 0);
        ship.pass(2);
        ship.restore();
        ship.addCompartment(2, 50);
        CHECK.due("water, leak and pump rate of a compartment in the place of another one",
                ship.water(0) + " " + ship.leak(0) + " " + Everything.pumpOf(ship, 0), "0 0 5");
    }

    /** "a leak rate from 0 to 20 tonnes per minute, initially 0" and "Returns the previous rate." */
    private static void leaksFromNoneToTwenty() {
        BallastControl ship = Check.shipWithArms(1, 2);
        CHECK.due("at first", ship.leak(1), 0);
        CHECK.due("the greatest after the first", ship.setLeak(1, 20), 0);
        CHECK.due("the greatest", ship.leak(1), 20);
        CHECK.refused("one more", Check.ARGUMENT, () -> ship.setLeak(1, 21));
        CHECK.due("the least after the greatest", ship.setLeak(1, 0), 20);
        CHECK.due("the least", ship.leak(1), 0);
        CHECK.refused("one less", Check.ARGUMENT, () -> ship.setLeak(1, -1));
        CHECK.due("the other one", ship.leak(0), 0);
    }

    /** "a pump rate from 0 to 20 tonnes per minute, initially 5" and "Returns the previous rate." */
    private static void pumpsFromNoneToTwenty() {
        BallastControl ship = Check.shipWithArms(1, 2);
        Check.fill(ship, 1, 40);
        CHECK.due("the greatest after the first", ship.setPump(1, 20), 5);
        ship.pass(1);
        CHECK.due("20 tonnes in a minute", ship.water(1), 20);
        CHECK.refused("one more", Check.ARGUMENT, () -> ship.setPump(1, 21));
        CHECK.due("the least after the greatest", ship.setPump(1, 0), 20);
        ship.pass(1);
        CHECK.due("nothing in a minute", ship.water(1), 20);
        CHECK.refused("one less", Check.ARGUMENT, () -> ship.setPump(1, -1));
        CHECK.due("the least", ship.setPump(1, 5), 0);
        CHECK.due("the other one", ship.setPump(0, 5), 5);
    }

    /** "The power is a number of pumps from 0 to 8, initially 2." and "Returns the previous power." */
    private static void powerFromNoneToEight() {
        BallastControl ship = Check.shipWithArms(0, 0, 0, 0, 0, 0, 0, 0);
        for (int i = 0; i < 8; i++) {
            ship.setLeak(i, 5);
        }
        ship.pass(1);
        CHECK.due("two pumps at first", ship.pumpedTotal(), 10L);
        CHECK.due("the greatest after the first", ship.setPower(8), 2);
        ship.pass(1);
        CHECK.due("eight pumps", ship.pumpedTotal(), 50L);
        CHECK.refused("one more", Check.ARGUMENT, () -> ship.setPower(9));
        CHECK.due("the least after the greatest", ship.setPower(0), 8);
        ship.pass(1);
        CHECK.due("no pump", ship.pumpedTotal(), 50L);
        CHECK.refused("one less", Check.ARGUMENT, () -> ship.setPower(-1));
        CHECK.due("the least", ship.setPower(7), 0);
        ship.pass(1);
        CHECK.due("seven pumps", ship.pumpedTotal(), 85L);
        CHECK.due("the same", ship.setPower(7), 7);
    }

    /** "The trim limit is from 1 to 9, initially 5." and "Returns the previous limit." */
    private static void limitsFromOneToNine() {
        BallastControl ship = new BallastControl();
        CHECK.due("the greatest after the first", ship.setLimit(9), 5);
        CHECK.refused("one more", Check.ARGUMENT, () -> ship.setLimit(10));
        CHECK.due("the least after the greatest", ship.setLimit(1), 9);
        CHECK.refused("one less", Check.ARGUMENT, () -> ship.setLimit(0));
        CHECK.due("the least", ship.setLimit(1), 1);
    }

    private static BallastControl shipWithWater(int water, int capacity) {
        BallastControl ship = new BallastControl();
        ship.addCompartment(0, 200);
        ship.addCompartment(1, capacity);
        Check.fill(ship, 0, water);
        return ship;
    }

    /** "amount: the amount in tonnes, 1 to 200". */
    private static void transfersFromOneToTwoHundred() {
        BallastControl ship = shipWithWater(200, 200);
        CHECK.due("the greatest", ship.transfer(0, 1, 200), 200);
        CHECK.refused("one more than the greatest", Check.ARGUMENT, () -> ship.transfer(1, 0, 201));
        CHECK.due("the least", ship.transfer(1, 0, 1), 199);
        CHECK.refused("one less than the least", Check.ARGUMENT, () -> ship.transfer(1, 0, 0));
    }

    /** "the source has at least this much water". */
    private static void transferOfAllTheWater() {
        BallastControl ship = shipWithWater(37, 200);
        CHECK.refused("one tonne more than there is", Check.STATE, () -> ship.transfer(0, 1, 38));
        CHECK.due("all there is", ship.transfer(0, 1, 37), 37);
        CHECK.due("the source is empty", ship.water(0), 0);
        CHECK.refused("from an empty one", Check.STATE, () -> ship.transfer(0, 1, 1));
        CHECK.due("all but one tonne", ship.transfer(1, 0, 36), 1);
    }

    /** "the water of the target does not become greater than its capacity". */
    private static void transferUpToTheCapacity() {
        BallastControl ship = shipWithWater(100, 30);
        CHECK.refused("one tonne more than it holds", Check.STATE, () -> ship.transfer(0, 1, 31));
        CHECK.due("what it holds but one tonne", ship.transfer(0, 1, 29), 29);
        CHECK.refused("two tonnes more", Check.STATE, () -> ship.transfer(0, 1, 2));
        CHECK.due("up to its capacity", ship.transfer(0, 1, 1), 30);
        CHECK.due("the target is full", ship.water(1), ship.capacity(1));
        CHECK.refused("to a full one", Check.STATE, () -> ship.transfer(0, 1, 1));
    }

    /** "the source and the target are different". */
    private static void transferNeedsTwoCompartments() {
        BallastControl ship = shipWithWater(50, 200);
        ship.transfer(0, 1, 10);
        CHECK.refused("to itself", Check.STATE, () -> ship.transfer(0, 0, 1));
        CHECK.refused("to itself, the last one", Check.STATE, () -> ship.transfer(1, 1, 1));
        CHECK.due("water", ship.water(0) + " " + ship.water(1), "40 10");
    }

    /** The conditions of a possible transfer are those of 'Advice', and no others. */
    private static void transferWhateverTheTrimAndWhenSunk() {
        BallastControl ship = new BallastControl();
        ship.addCompartment(9, 200);
        ship.addCompartment(-9, 200);
        Check.fill(ship, 0, 200);
        ship.setLimit(1);
        CHECK.due("from a trim of 6 to one of -6", ship.transfer(0, 1, 200), -1800);
        CHECK.due("the trim", ship.trim(), -6);
        BallastControl sunk = Ships.sunk();
        CHECK.due("when sunk", sunk.transfer(0, 4, 100), -2 * 150 - 200 + 200 + 2 * 151);
    }

    /** "Returns the moment afterwards", of water and cargo together. */
    private static void transferReturnsTheMoment() {
        BallastControl ship = Check.shipWithArms(-5, 4);
        ship.load(0, 50);
        Check.fill(ship, 1, 20);
        CHECK.due("the moment", ship.transfer(1, 0, 3), -5 * 53 + 4 * 17);
        CHECK.due("is that of the ship", ship.moment(), -5 * 53 + 4 * 17);
    }

    /** "whether the pump of a compartment would run in a fourth step if the water was as it is now". */
    private static void wouldPumpWithTheWaterAsItIsNow() {
        BallastControl ship = Check.shipWithArms(1);
        ship.setLeak(0, 20);
        CHECK.due("empty, with a leak", ship.wouldPump(0), false);
        Check.fill(ship, 0, 1);
        CHECK.due("with one tonne", ship.wouldPump(0), true);
        ship.setPump(0, 0);
        CHECK.due("without a pump", ship.wouldPump(0), false);
        ship.setPump(0, 1);
        CHECK.due("with the least pump", ship.wouldPump(0), true);
        BallastControl sunk = Ships.sunk();
        sunk.setPower(1);
        CHECK.due("when sunk", sunk.wouldPump(0), true);
    }

    /** "as many pumps run as there is power for". */
    private static void wouldPumpUpToThePower() {
        BallastControl ship = Check.shipWithArms(0, 0, 0, 0, 0, 0, 0, 0);
        for (int i = 0; i < 8; i++) {
            Check.fill(ship, i, 1 + i);
        }
        for (int power = 0; power <= 8; power++) {
            ship.setPower(power);
            for (int i = 0; i < 8; i++) {
                CHECK.due("wouldPump(" + i + ") with power " + power, ship.wouldPump(i), i >= 8 - power);
            }
        }
    }

    /** "whatever the power is, all compartments of this order have a rank", "starting at 0", "no such rank". */
    private static void pumpRanksWhateverThePower() {
        BallastControl ship = Check.shipWithArms(0, 0, 0, 0);
        Check.fill(ship, 3, 2);
        Check.fill(ship, 1, 1);
        Check.fill(ship, 0, 90);
        ship.setPump(0, 0);
        for (int power = 0; power <= 8; power++) {
            ship.setPower(power);
            CHECK.due("pumpAt(0)", ship.pumpAt(0), 3);
            CHECK.due("pumpAt(1)", ship.pumpAt(1), 1);
            CHECK.refused("pumpAt(2)", Check.ELEMENT, () -> ship.pumpAt(2));
            CHECK.refused("pumpAt(-1)", Check.ELEMENT, () -> ship.pumpAt(-1));
        }
    }

    /** "ordered by their water, the greatest amount first, then by their numbers, the lowest first". */
    private static void pumpRanksOfEqualWater() {
        BallastControl ship = Check.shipWithArms(0, 0, 0, 0, 0, 0, 0, 0);
        for (int i = 0; i < 8; i++) {
            Check.fill(ship, i, i == 5 ? 6 : 5);
        }
        ship.load(7, 50);
        int[] order = {5, 0, 1, 2, 3, 4, 6, 7};
        for (int rank = 0; rank < 8; rank++) {
            CHECK.due("pumpAt(" + rank + ")", ship.pumpAt(rank), order[rank]);
        }
        CHECK.refused("pumpAt(8)", Check.ELEMENT, () -> ship.pumpAt(8));
        ship.setPower(3);
        CHECK.due("the third of the order", ship.wouldPump(1), true);
        CHECK.due("the fourth of the order", ship.wouldPump(2), false);
    }

    /** "0 if it is full now", with a leak and without one. */
    private static void fullNow() {
        BallastControl ship = new BallastControl();
        ship.addCompartment(0, 10);
        Check.fill(ship, 0, 10);
        CHECK.due("without a leak", ship.minutesUntilFull(0), 0);
        ship.setLeak(0, 20);
        CHECK.due("with a leak", ship.minutesUntilFull(0), 0);
    }

    /** "Throws NoSuchElementException if it is never full". */
    private static void neverFull() {
        BallastControl ship = new BallastControl();
        ship.addCompartment(0, 10);
        ship.addCompartment(0, 10);
        CHECK.refused("empty", Check.ELEMENT, () -> ship.minutesUntilFull(0));
        Check.fill(ship, 0, 9);
        CHECK.refused("one tonne is missing", Check.ELEMENT, () -> ship.minutesUntilFull(0));
        ship.setLeak(1, 1);
        CHECK.refused("the other one leaks", Check.ELEMENT, () -> ship.minutesUntilFull(0));
        ship.schedule(ship.minute() + 1, 9);
        CHECK.refused("a storm does not count", Check.ELEMENT, () -> ship.minutesUntilFull(0));
        CHECK.due("the other one", ship.minutesUntilFull(1), 10);
    }

    /** "Returns the smallest number of minutes". */
    private static void smallestNumberOfMinutesUntilFull() {
        BallastControl ship = new BallastControl();
        ship.addCompartment(0, 200);
        ship.setLeak(0, 1);
        CHECK.due("the most minutes", ship.minutesUntilFull(0), 200);
        ship.setLeak(0, 20);
        CHECK.due("ten times 20", ship.minutesUntilFull(0), 10);
        ship.setLeak(0, 19);
        CHECK.due("200 by 19", ship.minutesUntilFull(0), 11);
        Check.fill(ship, 0, 10);
        ship.setLeak(0, 19);
        CHECK.due("ten times 19", ship.minutesUntilFull(0), 10);
        Check.fill(ship, 0, 189);
        ship.setLeak(0, 20);
        CHECK.due("one tonne is missing", ship.minutesUntilFull(0), 1);
    }

    /** "if no pump runs, no storm strikes and only leaks work". */
    private static void onlyLeaksWorkUntilFull() {
        BallastControl ship = Check.shipWithArms(0);
        ship.setLeak(0, 5);
        ship.setPump(0, 20);
        ship.schedule(1, 9);
        CHECK.due("with a pump and a storm to come", ship.minutesUntilFull(0), 20);
        BallastControl sunk = Ships.sunk();
        CHECK.due("when sunk", sunk.minutesUntilFull(4), 149);
    }
}
