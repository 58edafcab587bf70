/**
 * The sentences of 'Advice' and of promises 9, 37 to 42, 45 and 51 to 53 that name a boundary, each with a test of its
 * own that stands below the sentence. What is refused, and that it changes nothing, is in RefusalTest.
 */
public final class AdviceEdgesTest {
    private static final Check CHECK = new Check("AdviceEdgesTest");

    public static void main(String[] args) {
        amountsFromOneToTwoHundred();
        sourceWithAtLeastThisMuchWater();
        targetUpToItsCapacity();
        sourceAndTargetAreDifferent();
        smallestAbsoluteMoment();
        lowestSourceOfSeveral();
        lowestTargetOfSeveral();
        bestTransferMayMakeItWorse();
        noTransferIsPossible();
        balanceMakesItSmaller();
        balanceRefusesWhatDoesNot();
        balanceMovesTheBestTransfer();
        noTransfersWhenBalanced();
        countsTheTransfers();
        noTransferIsPossibleAtSomeTime();
        transfersThatDoNotMakeItSmaller();
        bestShiftNeedsAPieceAndTwoCompartments();
        lowestPieceOfSeveral();
        lowestCompartmentOfSeveral();
        bestShiftMayMakeItWorse();
        ranksOfLoads();
        noSuchRank();
        meansWithoutCompartments();
        meansOfEmptyAndFullCompartments();
        consistentInEveryState();
        CHECK.end();
    }

    /** Compartments of 200 tonnes at these arms, with this water in the first one. */
    private static BallastControl ship(int water, int... arms) {
        BallastControl ship = new BallastControl();
        for (int arm : arms) {
            ship.addCompartment(arm, 200);
        }
        Check.fill(ship, 0, water);
        return ship;
    }

    private static String best(BallastControl ship, int amount) {
        return ship.bestSource(amount) + " to " + ship.bestTarget(amount) + ": " + ship.bestMoment(amount);
    }

    /** "amount: the amount in tonnes, 1 to 200". */
    private static void amountsFromOneToTwoHundred() {
        BallastControl ship = ship(200, 2, 1);
        CHECK.due("the least", best(ship, 1), "0 to 1: 399");
        CHECK.due("the greatest", best(ship, 200), "0 to 1: 200");
        for (int wrong : new int[] {0, 201}) {
            CHECK.refused("bestSource", Check.ARGUMENT, () -> ship.bestSource(wrong));
            CHECK.refused("bestTarget", Check.ARGUMENT, () -> ship.bestTarget(wrong));
            CHECK.refused("bestMoment", Check.ARGUMENT, () -> ship.bestMoment(wrong));
            CHECK.refused("transfersToBalance", Check.ARGUMENT, () -> ship.transfersToBalance(wrong));
            CHECK.refused("balance", Check.ARGUMENT, () -> ship.balance(wrong));
        }
        CHECK.due("balance of the least", ship.balance(1), 399);
        ship.undo();
        CHECK.due("balance of the greatest", ship.balance(200), 200);
        BallastControl far = ship(200, 9, 0);
        CHECK.due("1800 by 300", far.trim(), 6);
        CHECK.due("transfersToBalance of the greatest", far.transfersToBalance(200), 1);
        CHECK.due("transfersToBalance of the least", far.transfersToBalance(1), 1);
    }

    /** "the source has at least this much water". */
    private static void sourceWithAtLeastThisMuchWater() {
        BallastControl ship = ship(30, 5, 4);
        CHECK.due("all its water", best(ship, 30), "0 to 1: 120");
        CHECK.refused("one tonne more", Check.ELEMENT, () -> ship.bestSource(31));
        CHECK.refused("one tonne more", Check.ELEMENT, () -> ship.bestTarget(31));
        CHECK.refused("one tonne more", Check.ELEMENT, () -> ship.bestMoment(31));
        CHECK.refused("balance of one tonne more", Check.STATE, () -> ship.balance(31));
        ship.transfer(0, 1, 10);
        CHECK.due("the other one has less than 20", best(ship, 11), "0 to 1: " + (140 - 11));
        CHECK.due("both have 10", best(ship, 10), "0 to 1: 130");
        CHECK.due("20 are in the first", best(ship, 20), "0 to 1: 120");
    }

    /** "the water of the target does not become greater than its capacity". */
    private static void targetUpToItsCapacity() {
        BallastControl ship = ship(100, 5, 3);
        ship.addCompartment(0, 30);
        CHECK.due("up to its capacity", best(ship, 30), "0 to 2: 350");
        CHECK.due("beyond it, to the other one", best(ship, 31), "0 to 1: " + (500 - 62));
        ship.transfer(0, 2, 29);
        CHECK.due("one tonne is missing", best(ship, 1), "0 to 2: " + (355 - 5));
        CHECK.due("two tonnes do not find room", best(ship, 2), "0 to 1: " + (355 - 4));
    }

    /** "if the source and the target are different": a transfer to itself would keep the best moment. */
    private static void sourceAndTargetAreDifferent() {
        BallastControl ship = ship(10, 0, 3, -4);
        CHECK.due("a moment of 0 is not kept", best(ship, 1), "0 to 1: 3");
        BallastControl alone = ship(10, 0);
        CHECK.refused("no other one", Check.ELEMENT, () -> alone.bestSource(1));
    }

    /** "after which the absolute value of the moment is smallest". */
    private static void smallestAbsoluteMoment() {
        CHECK.due("below 0", best(ship(10, 9, -1, 2), 10), "0 to 1: -10");
        CHECK.due("above 0", best(ship(10, 9, -3, 2), 10), "0 to 2: 20");
        CHECK.due("0", best(ship(10, 9, 1, 0), 10), "0 to 2: 0");
        CHECK.due("a negative moment", best(ship(10, -9, -1, 2), 10), "0 to 1: -10");
    }

    /** "of several, it is the one with the lowest number of the source". */
    private static void lowestSourceOfSeveral() {
        BallastControl ship = Check.shipWithArms(1, 1, 0, 1);
        Check.fill(ship, 1, 10);
        Check.fill(ship, 3, 10);
        CHECK.due("the lowest with water", best(ship, 10), "1 to 2: 10");
        CHECK.due("of all amounts", best(ship, 1), "1 to 2: 19");
        Check.fill(ship, 0, 10);
        CHECK.due("the lowest of all", best(ship, 10), "0 to 2: 20");
        BallastControl sides = Check.shipWithArms(2, -2, 0);
        sides.load(2, 1);
        Check.fill(sides, 1, 10);
        Check.fill(sides, 0, 10);
        CHECK.due("2 and -2 are as small", best(sides, 1), "0 to 2: -2");
    }

    /** "and then with the lowest number of the target". */
    private static void lowestTargetOfSeveral() {
        CHECK.due("of two alike", best(ship(10, 5, 3, 3), 1), "0 to 1: 48");
        CHECK.due("of -10 and 10", best(ship(10, 5, -1, 1), 10), "0 to 1: -10");
        CHECK.due("of 10 and -10", best(ship(10, 5, 1, -1), 10), "0 to 1: 10");
        BallastControl back = Check.shipWithArms(3, 5, 3);
        Check.fill(back, 1, 10);
        CHECK.due("a target below the source", best(back, 10), "1 to 0: 30");
    }

    /** "the best transfer is the one of all transfers that are possible", also where none helps. */
    private static void bestTransferMayMakeItWorse() {
        CHECK.due("all are worse", best(ship(10, 1, 9, 8), 10), "0 to 2: 80");
        CHECK.due("from a moment of 0", best(ship(10, 0, -9), 10), "0 to 1: -90");
    }

    /** "Throws NoSuchElementException if no transfer is possible". */
    private static void noTransferIsPossible() {
        BallastControl[] ships = {new BallastControl(), Check.shipWithArms(1), Check.shipWithArms(1, 2), ship(10, 3)};
        for (BallastControl ship : ships) {
            CHECK.refused("bestSource", Check.ELEMENT, () -> ship.bestSource(1));
            CHECK.refused("bestTarget", Check.ELEMENT, () -> ship.bestTarget(1));
            CHECK.refused("bestMoment", Check.ELEMENT, () -> ship.bestMoment(1));
            CHECK.refused("balance", Check.STATE, () -> ship.balance(1));
        }
        BallastControl full = Ships.full();
        CHECK.refused("between full ones", Check.ELEMENT, () -> full.bestMoment(1));
    }

    /** Arms 5 and -5 with 10 tonnes in the first, and one tonne at this arm, which no transfer of 10 tonnes can use. */
    private static BallastControl shipWithOneTonneAt(int arm) {
        BallastControl ship = ship(10, 5, -5);
        ship.addCompartment(arm, 10);
        Check.fill(ship, 2, 1);
        return ship;
    }

    /** "or the absolute value of the moment would not become smaller": by 1 it does. */
    private static void balanceMakesItSmaller() {
        CHECK.due("from 5 to 4", ship(1, 5, 4).balance(1), 4);
        CHECK.due("from -5 to -4", ship(1, -5, -4).balance(1), -4);
        CHECK.due("from 1 to 0", ship(1, 1, 0).balance(1), 0);
        CHECK.due("from 51 to -49", shipWithOneTonneAt(1).balance(10), -49);
        CHECK.due("from 52 to -48", shipWithOneTonneAt(2).balance(10), -48);
    }

    /** The same sentence: as great a moment, or a greater one, is refused. */
    private static void balanceRefusesWhatDoesNot() {
        CHECK.refused("from 50 to 50", Check.STATE, () -> ship(10, 5, 5).balance(10));
        CHECK.refused("from 50 to -50", Check.STATE, () -> shipWithOneTonneAt(0).balance(10));
        CHECK.refused("from 49 to -51", Check.STATE, () -> shipWithOneTonneAt(-1).balance(10));
        CHECK.refused("from 5 to 6", Check.STATE, () -> ship(1, 5, 6).balance(1));
        CHECK.refused("from 0 to 1", Check.STATE, () -> ship(1, 0, 1).balance(1));
    }

    /** "Carries out the best transfer of an amount." and "Returns the moment afterwards." */
    private static void balanceMovesTheBestTransfer() {
        BallastControl ship = ship(60, 6, 4, 1, 1);
        CHECK.due("the moment", ship.balance(20), 260);
        CHECK.due("the water", ship.water(0) + " " + ship.water(1) + " " + ship.water(2) + " " + ship.water(3),
                "40 0 20 0");
        CHECK.due("is that of the ship", ship.moment(), 260);
        BallastControl sunk = Ships.sunk();
        CHECK.due("when sunk", sunk.moment(), -2 * 250 - 200 + 200 + 2 * 51);
        CHECK.due("the best when sunk", sunk.balance(100), 2);
    }

    /** "0 if the ship is balanced now", whether a transfer is possible or not. */
    private static void noTransfersWhenBalanced() {
        CHECK.due("without compartments", new BallastControl().transfersToBalance(1), 0);
        CHECK.due("with one", ship(10, 9).transfersToBalance(200), 0);
        CHECK.due("with two", ship(10, 9, 0).transfersToBalance(10), 0);
        CHECK.refused("but not of 0 tonnes", Check.ARGUMENT, () -> new BallastControl().transfersToBalance(0));
        CHECK.refused("or of 201", Check.ARGUMENT, () -> ship(10, 9).transfersToBalance(201));
    }

    /** "how many times the best transfer of an amount would have to be carried out, one after the other". */
    private static void countsTheTransfers() {
        BallastControl ship = ship(200, 9, 0);
        ship.setLimit(1);
        CHECK.due("from 1800 below 600 by 9", ship.transfersToBalance(1), 134);
        CHECK.due("from 1800 below 600 by 180", ship.transfersToBalance(20), 7);
        CHECK.due("from 1800 below 600 by 1206", ship.transfersToBalance(134), 1);
        CHECK.due("on a copy", ship.water(0) + " " + ship.water(1) + " " + ship.undoableCount(), "200 0 8");
        BallastControl balanced = ship(200, 9, 0);
        balanced.setLimit(1);
        int count = balanced.transfersToBalance(20);
        for (int i = 0; i < count; i++) {
            CHECK.due("not balanced before", balanced.isBalanced(), false);
            balanced.balance(20);
        }
        CHECK.due("balanced after it", balanced.isBalanced(), true);
        BallastControl sides = ship(200, -9, 9, 0);
        sides.setLimit(1);
        CHECK.due("from -1800 above -600 by 18", sides.transfersToBalance(1), 67);
    }

    /**
     * "Throws NoSuchElementException if no transfer is possible at some time before". After one transfer the way back
     * is always possible, so this is the time before the first one.
     */
    private static void noTransferIsPossibleAtSomeTime() {
        CHECK.refused("no other compartment", Check.ELEMENT, () -> ship(200, 9).transfersToBalance(1));
        BallastControl ship = ship(199, 9, 0);
        ship.setLimit(1);
        CHECK.refused("not so much water", Check.ELEMENT, () -> ship.transfersToBalance(200));
        CHECK.due("all the water", ship.transfersToBalance(199), 1);
        BallastControl narrow = ship(200, 9);
        narrow.addCompartment(0, 150);
        narrow.setLimit(1);
        CHECK.refused("not so much room", Check.ELEMENT, () -> narrow.transfersToBalance(151));
        CHECK.due("all the room", narrow.transfersToBalance(150), 1);
    }

    /** "or the absolute value of the moment would not become smaller by one": at first, or after some transfers. */
    private static void transfersThatDoNotMakeItSmaller() {
        CHECK.refused("the same moment", Check.ELEMENT, () -> ship(200, 9, 9).transfersToBalance(1));
        CHECK.refused("the same on the other side", Check.ELEMENT, () -> ship(200, 9, -9).transfersToBalance(200));
        CHECK.due("18 less on the other side", ship(200, 9, -9).transfersToBalance(199), 1);
        BallastControl ship = ship(200, 9, -9);
        ship.setLimit(3);
        CHECK.refused("18 less is not enough, and then 18 more", Check.ELEMENT, () -> ship.transfersToBalance(199));
        CHECK.due("the half", ship.transfersToBalance(100), 1);
        BallastControl narrow = ship(200, 9);
        narrow.addCompartment(0, 100);
        narrow.setLimit(2);
        CHECK.refused("only the way back after three", Check.ELEMENT, () -> narrow.transfersToBalance(30));
        narrow.addCompartment(0, 34);
        CHECK.due("a fourth one to another compartment", narrow.transfersToBalance(30), 4);
        BallastControl over = ship(200, 9, 0);
        over.setLimit(1);
        CHECK.refused("from 1800 to 603, and then the way back", Check.ELEMENT, () -> over.transfersToBalance(133));
    }

    /** "Throws NoSuchElementException if no piece is on board, or there are fewer than 2 compartments". */
    private static void bestShiftNeedsAPieceAndTwoCompartments() {
        BallastControl ship = Check.shipWithArms(5);
        CHECK.refused("no piece", Check.ELEMENT, () -> ship.bestShiftPiece());
        ship.load(0, 1);
        CHECK.refused("one compartment", Check.ELEMENT, () -> ship.bestShiftPiece());
        CHECK.refused("one compartment", Check.ELEMENT, () -> ship.bestShiftCompartment());
        ship.addCompartment(4, 10);
        CHECK.due("two compartments", ship.bestShiftPiece() + " " + ship.bestShiftCompartment(), "0 1");
        ship.unload(0);
        CHECK.refused("no piece then", Check.ELEMENT, () -> ship.bestShiftPiece());
        CHECK.refused("no piece then", Check.ELEMENT, () -> ship.bestShiftCompartment());
    }

    private static String bestShift(BallastControl ship) {
        return ship.bestShiftPiece() + " to " + ship.bestShiftCompartment();
    }

    /** "Of several moves it is the one of the piece with the lowest id". */
    private static void lowestPieceOfSeveral() {
        BallastControl ship = Check.shipWithArms(4, 0);
        ship.load(1, 9);
        ship.load(0, 5);
        ship.load(0, 6);
        ship.load(0, 6);
        CHECK.due("of two alike", bestShift(ship), "2 to 1");
        ship.unload(2);
        ship.load(0, 6);
        CHECK.due("of the later two", bestShift(ship), "3 to 1");
        BallastControl sides = Check.shipWithArms(3, -3, 0);
        sides.load(0, 1);
        sides.load(1, 1);
        CHECK.due("3 and -3 are as small", bestShift(sides), "0 to 2");
        BallastControl crossed = Check.shipWithArms(3, 1, -1);
        crossed.load(2, 3);
        crossed.load(0, 1);
        CHECK.due("a higher compartment of a lower piece", bestShift(crossed), "1 to 1");
    }

    /** "and then the one to the compartment with the lowest number". */
    private static void lowestCompartmentOfSeveral() {
        BallastControl ship = Check.shipWithArms(1, 5, 1, 1);
        ship.load(1, 10);
        CHECK.due("of three alike", bestShift(ship), "0 to 0");
        ship.shift(0, 0);
        CHECK.due("not its own", bestShift(ship), "0 to 2");
        BallastControl sides = Check.shipWithArms(5, -1, 1);
        sides.load(0, 10);
        CHECK.due("-10 and 10 are as small", bestShift(sides), "0 to 1");
    }

    /** "the piece whose move to another compartment makes the absolute value of the moment smallest". */
    private static void bestShiftMayMakeItWorse() {
        BallastControl ship = Check.shipWithArms(0, -9, 8);
        ship.load(0, 1);
        CHECK.due("from a moment of 0", bestShift(ship), "0 to 2");
        BallastControl heavy = Ships.heavy();
        CHECK.due("the moment", heavy.moment(), -400 - 200 - 100 + 200 + 100);
        CHECK.due("nearest to 0", bestShift(heavy), "0 to 4");
    }

    /** "greater load first, then more water, then lower numbers", "starting at 0". */
    private static void ranksOfLoads() {
        BallastControl ship = Check.shipWithArms(0, 0, 0, 0, 0, 0, 0, 0);
        ship.load(0, 10);
        Check.fill(ship, 1, 5);
        ship.load(1, 5);
        Check.fill(ship, 2, 10);
        ship.load(3, 10);
        Check.fill(ship, 4, 9);
        Check.fill(ship, 5, 5);
        ship.load(5, 5);
        ship.load(6, 11);
        int[] order = {6, 2, 1, 5, 0, 3, 4, 7};
        for (int rank = 0; rank < 8; rank++) {
            CHECK.due("compartmentByLoad(" + rank + ")", ship.compartmentByLoad(rank), order[rank]);
        }
        BallastControl empty = Check.shipWithArms(1, 2, 3);
        for (int rank = 0; rank < 3; rank++) {
            CHECK.due("of empty ones", empty.compartmentByLoad(rank), rank);
        }
    }

    /** "Throws NoSuchElementException if there is no such rank". */
    private static void noSuchRank() {
        BallastControl ship = new BallastControl();
        for (int count = 0; count <= 8; count++) {
            int rank = count;
            CHECK.refused("the number of compartments", Check.ELEMENT, () -> ship.compartmentByLoad(rank));
            CHECK.refused("negative", Check.ELEMENT, () -> ship.compartmentByLoad(-1));
            if (count < 8) {
                ship.addCompartment(0, 10);
                CHECK.due("the greatest rank", ship.compartmentByLoad(rank), rank);
            }
        }
    }

    /** "Throws ArithmeticException if there are no compartments". */
    private static void meansWithoutCompartments() {
        BallastControl ship = new BallastControl();
        CHECK.refused("meanWater", Check.ARITHMETIC, () -> ship.meanWater());
        CHECK.refused("fillShare", Check.ARITHMETIC, () -> ship.fillShare());
        ship.addCompartment(0, 10);
        CHECK.due("with one", ship.meanWater() + " " + ship.fillShare(), "0.0 0.0");
        ship.undo();
        CHECK.refused("meanWater after undo", Check.ARITHMETIC, () -> ship.meanWater());
        CHECK.refused("fillShare after undo", Check.ARITHMETIC, () -> ship.fillShare());
    }

    /** "the sum, converted to double, divided by their number" and "converted to float, divided by the capacities". */
    private static void meansOfEmptyAndFullCompartments() {
        BallastControl full = Ships.full();
        CHECK.due("of full ones", full.meanWater() + " " + full.fillShare(), "10.0 1.0");
        BallastControl ship = Check.shipWithArms(0, 0, 0);
        Check.fill(ship, 2, 1);
        CHECK.due("1 by 3 as a double", ship.meanWater(), 1.0 / 3.0);
        CHECK.due("1 by 300 as a float", ship.fillShare(), 1.0f / 300.0f);
        Check.fill(ship, 0, 100);
        Check.fill(ship, 1, 100);
        Check.fill(ship, 2, 98);
        CHECK.due("299 by 3", ship.meanWater(), 299.0 / 3.0);
        CHECK.due("299 by 300", ship.fillShare(), 299.0f / 300.0f);
    }

    /** "Returns true if all these checks succeed.": they do, whatever the ship is. */
    private static void consistentInEveryState() {
        BallastControl[] ships = {new BallastControl(), Ships.rich(), Ships.full(), Ships.heavy(), Ships.sunk(),
            ship(20, 9, -9), ship(19, 0, 0), Check.shipWithArms(1)};
        for (int i = 0; i < ships.length; i++) {
            CHECK.due("isConsistent of ship " + i, ships[i].isConsistent(), true);
        }
        BallastControl ship = ship(20, 9, -9);
        CHECK.due("the best transfer of all its water", best(ship, 20), "0 to 1: -180");
        CHECK.due("isConsistent after another question", ship.isConsistent(), true);
        CHECK.due("and this one after it", best(ship, 20), "0 to 1: -180");
        Check.run(ship, "power 2");
        ship.save();
        CHECK.due("a copy with water", ship.momentAfter(0), 180);
        while (ship.undoableCount() > 0) {
            ship.undo();
        }
        CHECK.due("compartments", ship.compartmentCount(), 0);
        CHECK.due("isConsistent beside copies that hold more", ship.isConsistent(), true);
    }
}
