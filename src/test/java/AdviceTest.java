/** Promises 9, 37 to 42, 45 and 51 to 53: advice, ranks, means and the ship's own check. */
public final class AdviceTest {
    private static final Check CHECK = new Check("AdviceTest");

    public static void main(String[] args) {
        promise9Balance();
        promises37To39BestTransfer();
        promises37To39TiesOfTransfers();
        promises37To39Refusals();
        promise40TransfersToBalance();
        promise40Refusals();
        promises41And42BestShift();
        promises41And42TiesOfShifts();
        promise45CompartmentByLoad();
        promise51MeanWater();
        promise52FillShare();
        promise53IsConsistent();
        CHECK.end();
    }

    private static void promise9Balance() {
        BallastControl ship = Check.shipWithArms(-4, 6, 2);
        CHECK.refused("balance(0)", Check.ARGUMENT, () -> ship.balance(0));
        CHECK.refused("balance(201)", Check.ARGUMENT, () -> ship.balance(201));
        CHECK.refused("without water", Check.STATE, () -> ship.balance(1));
        Check.fill(ship, 1, 30);
        CHECK.due("balance(10)", ship.balance(10), 180 - 100);
        CHECK.due("water of the source", ship.water(1), 20);
        CHECK.due("water of the target", ship.water(0), 10);
        CHECK.due("balance(8)", ship.balance(8), 0);
        CHECK.refused("not smaller than 0", Check.STATE, () -> ship.balance(1));
        CHECK.refused("no transfer so large", Check.STATE, () -> ship.balance(200));
        CHECK.due("water after refusals", ship.water(1), 12);
        BallastControl even = Check.shipWithArms(5, -5);
        Check.fill(even, 0, 20);
        CHECK.due("smallest moment -100, as great as 100", even.bestMoment(20), -100);
        int changes = even.undoableCount();
        CHECK.refused("as great is not smaller", Check.STATE, () -> even.balance(20));
        CHECK.due("no change", even.water(0) * 10 + even.undoableCount(), 200 + changes);
    }

    private static void promises37To39BestTransfer() {
        BallastControl ship = Check.shipWithArms(-4, 6, 2);
        Check.fill(ship, 1, 30);
        CHECK.due("bestSource(10)", ship.bestSource(10), 1);
        CHECK.due("bestTarget(10)", ship.bestTarget(10), 0);
        CHECK.due("bestMoment(10)", ship.bestMoment(10), 80);
        CHECK.due("bestTarget(30), -120 against 60", ship.bestTarget(30), 2);
        CHECK.due("bestMoment(30)", ship.bestMoment(30), 60);
        CHECK.due("nothing has moved", ship.water(1), 30);
        Check.fill(ship, 0, 95);
        CHECK.due("the source of the heavier side", ship.bestSource(10), 0);
        CHECK.due("its target", ship.bestTarget(10), 1);
        CHECK.due("its moment", ship.bestMoment(10), -200 + 100);
        Check.fill(ship, 1, 70);
        CHECK.due("a full target is left out", ship.bestTarget(10), 2);
        CHECK.due("moment with a full target", ship.moment(), 600 - 380);
        CHECK.due("bestMoment with a full target", ship.bestMoment(10), 180);
        CHECK.due("up to the capacity", ship.bestTarget(5), 0);
        CHECK.due("bestMoment up to the capacity", ship.bestMoment(5), 220 - 50);
    }

    private static void promises37To39TiesOfTransfers() {
        BallastControl ship = Check.shipWithArms(0, 3, 3, 0, -3);
        Check.fill(ship, 1, 20);
        Check.fill(ship, 2, 20);
        Check.fill(ship, 4, 40);
        CHECK.due("moment 0", ship.moment(), 0);
        CHECK.due("the lowest source that keeps 0", ship.bestSource(5), 1);
        CHECK.due("and its target", ship.bestTarget(5), 2);
        ship.transfer(4, 0, 10);
        CHECK.due("moment 30", ship.moment(), 30);
        CHECK.due("the lowest source to 0", ship.bestSource(10), 0);
        CHECK.due("the target to 0", ship.bestTarget(10), 4);
        CHECK.due("bestMoment", ship.bestMoment(10), 0);
        CHECK.due("30 minus 15 by 0 to 4 or 1 to 0", ship.bestSource(5), 1);
        CHECK.due("30 minus 30 by 1 to 4", ship.bestTarget(5), 4);
        BallastControl signs = Check.shipWithArms(0, 2, -2);
        Check.fill(signs, 0, 10);
        CHECK.due("2 and -2 are as small", signs.bestTarget(1), 1);
        CHECK.due("the moment has its sign", signs.bestMoment(1), 2);
    }

    private static void promises37To39Refusals() {
        BallastControl bare = new BallastControl();
        BallastControl ship = Check.shipWithArms(1, 2);
        Check.fill(ship, 0, 20);
        for (int wrong : new int[] {0, -1, 201, Integer.MAX_VALUE, Integer.MIN_VALUE}) {
            CHECK.refused("bestSource(" + wrong + ")", Check.ARGUMENT, () -> bare.bestSource(wrong));
            CHECK.refused("bestTarget(" + wrong + ")", Check.ARGUMENT, () -> bare.bestTarget(wrong));
            CHECK.refused("bestMoment(" + wrong + ")", Check.ARGUMENT, () -> bare.bestMoment(wrong));
            CHECK.refused("transfersToBalance(" + wrong + ")", Check.ARGUMENT, () -> bare.transfersToBalance(wrong));
        }
        for (int tooMuch : new int[] {21, 200}) {
            CHECK.refused("bestSource(" + tooMuch + ")", Check.ELEMENT, () -> ship.bestSource(tooMuch));
            CHECK.refused("bestTarget(" + tooMuch + ")", Check.ELEMENT, () -> ship.bestTarget(tooMuch));
            CHECK.refused("bestMoment(" + tooMuch + ")", Check.ELEMENT, () -> ship.bestMoment(tooMuch));
        }
        CHECK.refused("bestSource(1) of a bare ship", Check.ELEMENT, () -> bare.bestSource(1));
        CHECK.due("all the water", ship.bestMoment(20), 40);
        BallastControl wide = new BallastControl();
        wide.addCompartment(1, 200);
        wide.addCompartment(-1, 200);
        Check.fill(wide, 0, 200);
        CHECK.due("bestMoment(200)", wide.bestMoment(200), -200);
    }

    /** Arms 9 and -9 with 200 tonnes in the first: a moment of 1800, and a trim of 6. */
    private static BallastControl leaningShip() {
        BallastControl ship = new BallastControl();
        ship.addCompartment(9, 200);
        ship.addCompartment(-9, 200);
        Check.fill(ship, 0, 200);
        return ship;
    }

    private static void promise40TransfersToBalance() {
        BallastControl ship = leaningShip();
        CHECK.due("trim", ship.trim(), 6);
        CHECK.due("transfersToBalance(1), from 1800 below 1800", ship.transfersToBalance(1), 1);
        ship.setLimit(3);
        CHECK.due("below 1200 by 18 each", ship.transfersToBalance(1), 34);
        CHECK.due("below 1200 by 180 each", ship.transfersToBalance(10), 4);
        CHECK.due("below 1200 by one", ship.transfersToBalance(100), 1);
        CHECK.due("nothing has moved", ship.water(0), 200);
        ship.transfer(0, 1, 200);
        CHECK.due("from -1800 to above -1200 by 180 each", ship.transfersToBalance(10), 4);
        CHECK.due("balance of -1800", ship.balance(10), -1620);
        ship.transfer(1, 0, 190);
        ship.setLimit(6);
        CHECK.due("balanced", ship.transfersToBalance(200), 0);
        CHECK.due("balanced without compartments", new BallastControl().transfersToBalance(200), 0);
    }

    private static void promise40Refusals() {
        BallastControl ship = leaningShip();
        CHECK.refused("as great to the other side", Check.ELEMENT, () -> ship.transfersToBalance(200));
        BallastControl alone = new BallastControl();
        alone.addCompartment(9, 200);
        Check.fill(alone, 0, 200);
        CHECK.due("out of balance", alone.isBalanced(), false);
        CHECK.refused("no other compartment", Check.ELEMENT, () -> alone.transfersToBalance(1));
        BallastControl far = new BallastControl();
        far.addCompartment(9, 200);
        far.addCompartment(8, 100);
        Check.fill(far, 0, 200);
        far.setLimit(2);
        CHECK.refused("no transfer at some time", Check.ELEMENT, () -> far.transfersToBalance(10));
        far.addCompartment(0, 150);
        CHECK.due("with a third compartment", far.transfersToBalance(10), 11);
        CHECK.due("nothing has moved", far.water(0), 200);
    }

    private static void promises41And42BestShift() {
        BallastControl ship = Check.shipWithArms(-4, 6, 2);
        CHECK.refused("bestShiftPiece without pieces", Check.ELEMENT, () -> ship.bestShiftPiece());
        CHECK.refused("bestShiftCompartment without pieces", Check.ELEMENT, () -> ship.bestShiftCompartment());
        ship.load(1, 10);
        ship.load(2, 20);
        ship.load(1, 5);
        CHECK.due("moment", ship.moment(), 130);
        CHECK.due("bestShiftPiece", ship.bestShiftPiece(), 1);
        CHECK.due("bestShiftCompartment", ship.bestShiftCompartment(), 0);
        ship.unload(1);
        CHECK.due("moment then", ship.moment(), 90);
        CHECK.due("bestShiftPiece then", ship.bestShiftPiece(), 0);
        CHECK.due("bestShiftCompartment then", ship.bestShiftCompartment(), 0);
        CHECK.due("nothing has moved", ship.compartmentOf(0), 1);
        BallastControl alone = Check.shipWithArms(1);
        alone.load(0, 10);
        CHECK.refused("bestShiftPiece with one compartment", Check.ELEMENT, () -> alone.bestShiftPiece());
        CHECK.refused("bestShiftCompartment with one compartment", Check.ELEMENT, () -> alone.bestShiftCompartment());
        BallastControl level = Check.shipWithArms(0, 9);
        level.load(0, 10);
        CHECK.due("a move that makes it worse", level.bestShiftCompartment(), 1);
    }

    private static void promises41And42TiesOfShifts() {
        BallastControl ship = Check.shipWithArms(3, 0, 0, 3);
        ship.load(1, 1);
        ship.unload(0);
        ship.load(0, 10);
        ship.load(3, 10);
        CHECK.due("the lowest id", ship.bestShiftPiece(), 1);
        CHECK.due("the lowest number", ship.bestShiftCompartment(), 1);
        BallastControl signs = Check.shipWithArms(0, -3, 3);
        signs.load(0, 10);
        CHECK.due("30 and -30 are as small", signs.bestShiftCompartment(), 1);
    }

    private static void promise45CompartmentByLoad() {
        BallastControl ship = Check.shipWithArms(1, 2, 3, 4, 5);
        CHECK.refused("no rank", Check.ELEMENT, () -> new BallastControl().compartmentByLoad(0));
        Check.fill(ship, 0, 10);
        ship.load(1, 20);
        Check.fill(ship, 2, 15);
        ship.load(2, 5);
        Check.fill(ship, 3, 20);
        Check.fill(ship, 4, 15);
        ship.load(4, 5);
        int[] order = {3, 2, 4, 1, 0};
        for (int i = 0; i < 5; i++) {
            CHECK.due("compartmentByLoad(" + i + ")", ship.compartmentByLoad(i), order[i]);
        }
        ship.load(0, 11);
        int[] then = {0, 3, 2, 4, 1};
        for (int i = 0; i < 5; i++) {
            CHECK.due("the greatest load by 1 has less water: " + i, ship.compartmentByLoad(i), then[i]);
        }
        for (int wrong : new int[] {-1, 5, 8, Integer.MIN_VALUE, Integer.MAX_VALUE}) {
            CHECK.refused("compartmentByLoad(" + wrong + ")", Check.ELEMENT, () -> ship.compartmentByLoad(wrong));
        }
    }

    private static void promise51MeanWater() {
        BallastControl ship = new BallastControl();
        CHECK.refused("meanWater at first", Check.ARITHMETIC, () -> ship.meanWater());
        ship.addCompartment(0, 100);
        CHECK.due("meanWater of none", ship.meanWater(), 0.0);
        ship.addCompartment(0, 100);
        ship.addCompartment(0, 200);
        Check.fill(ship, 1, 10);
        CHECK.due("meanWater", ship.meanWater(), 10.0 / 3);
        ship.load(0, 50);
        CHECK.due("cargo does not count", ship.meanWater(), 10.0 / 3);
    }

    private static void promise52FillShare() {
        BallastControl ship = new BallastControl();
        CHECK.refused("fillShare at first", Check.ARITHMETIC, () -> ship.fillShare());
        ship.addCompartment(0, 100);
        CHECK.due("fillShare of none", ship.fillShare(), 0.0f);
        ship.addCompartment(0, 20);
        Check.fill(ship, 1, 7);
        ship.load(0, 50);
        CHECK.due("fillShare", ship.fillShare(), 7.0f / 120);
    }

    private static void promise53IsConsistent() {
        BallastControl ship = Check.shipWithArms(-4, 6, 2);
        Check.fill(ship, 0, 100);
        Check.fill(ship, 1, 30);
        ship.load(1, 20);
        ship.setLeak(2, 9);
        ship.pass(20);
        String before = Check.state(ship);
        CHECK.due("isConsistent", ship.isConsistent(), true);
        CHECK.due("it changes nothing", Check.state(ship), before);
    }
}
