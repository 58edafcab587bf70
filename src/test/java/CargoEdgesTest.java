/**
 * The sentences of 'Cargo' and 'Trim' and of promises 3 to 5 and 25 to 36 that name a boundary, each with a test of its
 * own that stands below the sentence. What is refused, and that it changes nothing, is in RefusalTest.
 */
public final class CargoEdgesTest {
    private static final Check CHECK = new Check("CargoEdgesTest");

    public static void main(String[] args) {
        weightsFromOneToFifty();
        firstIdIsNone();
        eachIdIsTheOneBeforePlusOne();
        refusedLoadsTakeNoId();
        undoAndRestoreTakeBackTheNextId();
        atMostSixteenPieces();
        upToNineHundredTonnes();
        cargoAndWaterDoNotLimitEachOther();
        unloadReturnsTheWeight();
        onlyPiecesOnBoardHaveAnId();
        shiftOnlyToAnotherCompartment();
        positionsInTheOrderOfIds();
        heaviestOfSeveral();
        noPieceOnBoard();
        loadIsWaterAndCargo();
        weightsOfEveryKind();
        momentsOfEveryKind();
        trimRoundsTowardsZero();
        trimOfAnEmptyShip();
        greatestTrim();
        balancedUpToTheLimit();
        balancedToBothSides();
        CHECK.end();
    }

    /** "A piece of cargo lies in a compartment and weighs 1 to 50 tonnes." */
    private static void weightsFromOneToFifty() {
        BallastControl ship = Check.shipWithArms(1);
        CHECK.due("the least", ship.weightOf(ship.load(0, 1)), 1);
        CHECK.due("the greatest", ship.weightOf(ship.load(0, 50)), 50);
        CHECK.refused("one less", Check.ARGUMENT, () -> ship.load(0, 0));
        CHECK.refused("one more", Check.ARGUMENT, () -> ship.load(0, 51));
    }

    /** "the first piece has id 0". */
    private static void firstIdIsNone() {
        BallastControl ship = Check.shipWithArms(1, 2);
        CHECK.due("the first piece", ship.load(1, 50), 0);
        CHECK.due("of a program", Check.run(Check.shipWithArms(1), "load 0 1;unload 0"), 2);
    }

    /** "each further piece has the id of the piece loaded before it plus 1", whatever was unloaded. */
    private static void eachIdIsTheOneBeforePlusOne() {
        BallastControl ship = Check.shipWithArms(1, 2);
        ship.load(0, 1);
        CHECK.due("the second", ship.load(1, 1), 1);
        ship.unload(1);
        CHECK.due("after the latest was unloaded", ship.load(0, 1), 2);
        ship.unload(0);
        CHECK.due("after the first was unloaded", ship.load(0, 1), 3);
        ship.unload(2);
        ship.unload(3);
        CHECK.due("after all were unloaded", ship.load(0, 1), 4);
        Check.run(ship, "load 0 1;unload 5;load 0 1");
        CHECK.due("after those of a program", ship.load(0, 1), 7);
    }

    /** "A method that throws an exception leaves everything unchanged": also the next free id. */
    private static void refusedLoadsTakeNoId() {
        BallastControl ship = Check.shipWithArms(1, 2);
        CHECK.refused("a wrong weight", Check.ARGUMENT, () -> ship.load(0, 51));
        CHECK.refused("no compartment", Check.INDEX, () -> ship.load(2, 50));
        CHECK.refused("a program that fails later", Check.STATE, () -> Check.run(ship, "load 0 1;load 0 1;load 0 51"));
        CHECK.due("the first id", ship.load(0, 1), 0);
        BallastControl heavy = Ships.heavy();
        CHECK.refused("too heavy", Check.STATE, () -> heavy.load(0, 1));
        heavy.unload(0);
        CHECK.due("the id after the refused one", heavy.load(0, 50), 1);
    }

    /** "Undo and restore also take back the next free id." */
    private static void undoAndRestoreTakeBackTheNextId() {
        BallastControl ship = Check.shipWithArms(1);
        ship.load(0, 1);
        ship.save();
        ship.load(0, 2);
        ship.load(0, 3);
        ship.undo();
        CHECK.due("after undo of one", ship.load(0, 4), 2);
        ship.unload(2);
        ship.undo();
        CHECK.due("after undo of an unload", ship.load(0, 5), 3);
        ship.restore();
        CHECK.due("after restore", ship.load(0, 6), 1);
        CHECK.due("its weight", ship.weightOf(1), 6);
        ship.undo();
        CHECK.due("after undo of this one", ship.load(0, 7), 1);
        Check.run(ship, "load 0 1;load 0 1;load 0 1");
        ship.undo();
        CHECK.due("after undo of a run", ship.load(0, 8), 2);
    }

    /** "At most 16 pieces are on board." */
    private static void atMostSixteenPieces() {
        BallastControl ship = Check.shipWithArms(1, 2);
        for (int i = 0; i < 15; i++) {
            ship.load(0, 1);
        }
        CHECK.due("the sixteenth", ship.load(1, 1), 15);
        CHECK.due("pieceCount", ship.pieceCount(), 16);
        CHECK.refused("the seventeenth", Check.STATE, () -> ship.load(1, 1));
        CHECK.refused("the seventeenth by a command", Check.STATE, () -> Check.run(ship, "load 1 1"));
        ship.unload(7);
        CHECK.due("after one was unloaded", ship.load(1, 1), 16);
        CHECK.refused("one more", Check.STATE, () -> ship.load(0, 1));
        CHECK.due("the ids around the gap", ship.idAt(6) + " " + ship.idAt(7) + " " + ship.idAt(15), "6 8 16");
    }

    /** "or the weight of the ship would be more than 900". */
    private static void upToNineHundredTonnes() {
        BallastControl ship = Ships.heavy();
        CHECK.due("900 tonnes", ship.weight(), 900);
        CHECK.refused("901 tonnes", Check.STATE, () -> ship.load(4, 1));
        ship.unload(0);
        CHECK.due("899 tonnes", ship.load(4, 49), 1);
        CHECK.refused("901 tonnes by 2", Check.STATE, () -> ship.load(1, 2));
        CHECK.due("900 tonnes by 1", ship.load(0, 1), 2);
        CHECK.due("weight", ship.weight(), 900);
        CHECK.due("afloat", ship.isAfloat(), true);
    }

    /** "Cargo and water do not limit each other." */
    private static void cargoAndWaterDoNotLimitEachOther() {
        BallastControl ship = new BallastControl();
        ship.addCompartment(1, 10);
        ship.addCompartment(2, 10);
        for (int i = 0; i < 8; i++) {
            ship.load(0, 50);
        }
        Check.fill(ship, 0, 10);
        CHECK.due("water beside much cargo", ship.water(0), 10);
        Check.fill(ship, 1, 10);
        CHECK.due("cargo beside water up to the capacity", ship.load(1, 50), 8);
        CHECK.due("a shift into a full one", ship.shift(0, 1), 0);
        CHECK.due("the load", ship.loadOf(0) + " " + ship.loadOf(1), "360 110");
        ship.setPump(1, 0);
        ship.pass(2);
        CHECK.due("a transfer beside much cargo", ship.transfer(1, 0, 10), 1 * 360 + 2 * 100);
        CHECK.due("the fill share is of water", ship.fillShare(), 0.5f);
    }

    /** "Unloads a piece of cargo." and "Returns its weight.": the first, the last and one between them. */
    private static void unloadReturnsTheWeight() {
        BallastControl ship = Check.shipWithArms(1, 2, 3);
        for (int i = 0; i < 16; i++) {
            ship.load(i % 3, 10 + i);
        }
        CHECK.due("the last", ship.unload(15), 25);
        CHECK.due("the first", ship.unload(0), 10);
        CHECK.due("one between", ship.unload(8), 18);
        CHECK.due("pieceCount", ship.pieceCount(), 13);
        for (int i = 0; i < 13; i++) {
            int id = i < 7 ? i + 1 : i + 2;
            CHECK.due("the others", ship.idAt(i) + " " + ship.weightOf(id) + " " + ship.compartmentOf(id),
                    id + " " + (10 + id) + " " + id % 3);
        }
    }

    /** "Throws NoSuchElementException if no piece on board has this id". */
    private static void onlyPiecesOnBoardHaveAnId() {
        BallastControl ship = Check.shipWithArms(1, 2);
        ship.load(0, 5);
        ship.load(0, 6);
        ship.unload(0);
        for (int id : new int[] {0, 2, -1}) {
            CHECK.refused("unload(" + id + ")", Check.ELEMENT, () -> ship.unload(id));
            CHECK.refused("shift(" + id + ", 1)", Check.ELEMENT, () -> ship.shift(id, 1));
            CHECK.refused("weightOf(" + id + ")", Check.ELEMENT, () -> ship.weightOf(id));
            CHECK.refused("compartmentOf(" + id + ")", Check.ELEMENT, () -> ship.compartmentOf(id));
        }
        CHECK.due("the piece on board", ship.weightOf(1) * 10 + ship.compartmentOf(1), 60);
    }

    /** "Throws IllegalStateException if it lies in this compartment". */
    private static void shiftOnlyToAnotherCompartment() {
        BallastControl ship = Check.shipWithArms(1, 2, 3, 4, 5, 6, 7, 8);
        ship.load(7, 5);
        CHECK.refused("to its own", Check.STATE, () -> ship.shift(0, 7));
        CHECK.due("to the first", ship.shift(0, 0), 7);
        CHECK.refused("to its own then", Check.STATE, () -> ship.shift(0, 0));
        CHECK.due("to the last", ship.shift(0, 7), 0);
        CHECK.due("compartmentOf", ship.compartmentOf(0), 7);
        CHECK.refused("beyond the last", Check.INDEX, () -> ship.shift(0, 8));
    }

    /** "by its position in the order of ids", "starting at 0", "negative or not less than the number of pieces". */
    private static void positionsInTheOrderOfIds() {
        BallastControl ship = Check.shipWithArms(1, 2);
        CHECK.refused("none on board", Check.INDEX, () -> ship.idAt(0));
        ship.load(1, 9);
        ship.load(0, 1);
        ship.load(1, 5);
        ship.shift(0, 0);
        ship.unload(1);
        CHECK.due("the first", ship.idAt(0), 0);
        CHECK.due("the last", ship.idAt(1), 2);
        CHECK.refused("the number of pieces", Check.INDEX, () -> ship.idAt(2));
        CHECK.refused("negative", Check.INDEX, () -> ship.idAt(-1));
        ship.unload(2);
        CHECK.refused("the number of pieces then", Check.INDEX, () -> ship.idAt(1));
    }

    /** "Of several such pieces it is the one with the lowest id." */
    private static void heaviestOfSeveral() {
        BallastControl ship = Check.shipWithArms(1, 2);
        ship.load(0, 49);
        ship.load(1, 50);
        ship.load(0, 50);
        CHECK.due("the first of two", ship.heaviestPiece(), 1);
        ship.unload(1);
        CHECK.due("the last one", ship.heaviestPiece(), 2);
        ship.unload(2);
        CHECK.due("the only one", ship.heaviestPiece(), 0);
        BallastControl alike = Check.shipWithArms(1);
        for (int i = 0; i < 16; i++) {
            alike.load(0, 7);
        }
        CHECK.due("the first of sixteen", alike.heaviestPiece(), 0);
    }

    /** "Throws NoSuchElementException if no piece is on board". */
    private static void noPieceOnBoard() {
        BallastControl ship = Check.shipWithArms(1, 2);
        CHECK.refused("none was loaded", Check.ELEMENT, () -> ship.heaviestPiece());
        ship.load(0, 1);
        ship.unload(0);
        CHECK.refused("all were unloaded", Check.ELEMENT, () -> ship.heaviestPiece());
        CHECK.due("pieceCount", ship.pieceCount(), 0);
    }

    /** "The load of a compartment is the weight of its water and of its cargo together." */
    private static void loadIsWaterAndCargo() {
        BallastControl ship = Check.shipWithArms(1, 2, 3);
        CHECK.due("none", ship.loadOf(0), 0);
        Check.fill(ship, 0, 100);
        CHECK.due("water", ship.loadOf(0), 100);
        ship.load(1, 3);
        ship.load(1, 4);
        CHECK.due("cargo", ship.loadOf(1), 7);
        ship.load(0, 50);
        CHECK.due("both", ship.loadOf(0), 150);
        CHECK.due("of the last one", ship.loadOf(2), 0);
    }

    /** "The weight is the sum of the loads of all compartments.", and by parts it is the same. */
    private static void weightsOfEveryKind() {
        BallastControl ship = Check.shipWithArms(0, 0, 0);
        CHECK.due("none", ship.weight() + " " + ship.weightByParts(), "0 0");
        Check.fill(ship, 2, 1);
        CHECK.due("only water", ship.weight() + " " + ship.weightByParts(), "1 1");
        ship.load(0, 2);
        CHECK.due("both", ship.weight() + " " + ship.weightByParts(), "3 3");
        ship.transfer(2, 1, 1);
        ship.shift(0, 2);
        CHECK.due("moved", ship.weight() + " " + ship.weightByParts(), "3 3");
        BallastControl sunk = Ships.sunk();
        CHECK.due("above 900", sunk.weight() + " " + sunk.weightByParts(), "901 901");
    }

    /** "The moment is the sum of the loads, each multiplied by the arm of its compartment.", and by parts the same. */
    private static void momentsOfEveryKind() {
        BallastControl ship = Check.shipWithArms(-9, 9, 0);
        CHECK.due("none", ship.moment() + " " + ship.momentByParts(), "0 0");
        ship.load(0, 50);
        CHECK.due("at -9", ship.moment() + " " + ship.momentByParts(), "-450 -450");
        Check.fill(ship, 1, 100);
        CHECK.due("water at 9", ship.moment() + " " + ship.momentByParts(), "450 450");
        Check.fill(ship, 2, 100);
        ship.load(2, 50);
        CHECK.due("at 0", ship.moment() + " " + ship.momentByParts(), "450 450");
        ship.shift(0, 2);
        CHECK.due("shifted", ship.moment() + " " + ship.momentByParts(), "900 900");
    }

    private static BallastControl leaning(int arm, int water, int cargo) {
        BallastControl ship = new BallastControl();
        ship.addCompartment(arm, 200);
        Check.fill(ship, 0, water);
        ship.load(0, cargo);
        return ship;
    }

    /** "The trim is the moment divided by the weight plus 100." and "Integer divisions round towards zero." */
    private static void trimRoundsTowardsZero() {
        CHECK.due("98 by 149", leaning(2, 48, 1).trim(), 0);
        CHECK.due("198 by 199", leaning(2, 98, 1).trim(), 0);
        CHECK.due("200 by 200", leaning(2, 99, 1).trim(), 1);
        CHECK.due("-198 by 199", leaning(-2, 98, 1).trim(), 0);
        CHECK.due("-200 by 200", leaning(-2, 99, 1).trim(), -1);
        CHECK.due("594 by 298", leaning(3, 148, 50).trim(), 1);
        CHECK.due("597 by 299", leaning(3, 149, 50).trim(), 1);
        CHECK.due("600 by 300", leaning(3, 150, 50).trim(), 2);
        CHECK.due("-597 by 299", leaning(-3, 149, 50).trim(), -1);
        CHECK.due("-600 by 300", leaning(-3, 150, 50).trim(), -2);
    }

    /** The same sentence with a weight of 0. */
    private static void trimOfAnEmptyShip() {
        CHECK.due("without compartments", new BallastControl().trim(), 0);
        CHECK.due("with empty compartments", Check.shipWithArms(9, 9).trim(), 0);
        CHECK.due("balanced", Check.shipWithArms(9, 9).isBalanced(), true);
        BallastControl light = Check.shipWithArms(9);
        light.load(0, 1);
        CHECK.due("9 by 101", light.trim(), 0);
    }

    /** The same sentence with the greatest moments of a ship afloat: 8100 and -8100. */
    private static void greatestTrim() {
        for (int arm : new int[] {9, -9}) {
            BallastControl ship = new BallastControl();
            for (int i = 0; i < 5; i++) {
                ship.addCompartment(arm, 180);
            }
            for (int i = 0; i < 5; i++) {
                Check.fill(ship, i, 180);
            }
            CHECK.due("the moment", ship.moment(), 900 * arm);
            CHECK.due("the trim", ship.trim(), arm > 0 ? 8 : -8);
            CHECK.due("afloat", ship.isAfloat(), true);
            CHECK.due("balanced with 5", ship.isBalanced(), false);
            ship.setLimit(7);
            CHECK.due("balanced with 7", ship.isBalanced(), false);
            ship.setLimit(8);
            CHECK.due("balanced with 8", ship.isBalanced(), true);
        }
    }

    /** "balanced if the absolute value of the trim is at most the limit". */
    private static void balancedUpToTheLimit() {
        BallastControl ship = leaning(3, 150, 50);
        ship.setLimit(1);
        CHECK.due("2 with a limit of 1", ship.isBalanced(), false);
        ship.setLimit(2);
        CHECK.due("2 with a limit of 2", ship.isBalanced(), true);
        ship.setLimit(9);
        CHECK.due("2 with a limit of 9", ship.isBalanced(), true);
        BallastControl first = leaning(9, 200, 49);
        CHECK.due("2241 by 349", first.trim(), 6);
        CHECK.due("6 with the first limit", first.isBalanced(), false);
        first.unload(0);
        first.load(0, 25);
        CHECK.due("2025 by 325", first.trim(), 6);
        first.pass(11);
        CHECK.due("1530 by 270", first.trim(), 5);
        CHECK.due("5 with the first limit", first.isBalanced(), true);
    }

    /** The same sentence for negative trims. */
    private static void balancedToBothSides() {
        BallastControl ship = leaning(-3, 150, 50);
        ship.setLimit(1);
        CHECK.due("-2 with a limit of 1", ship.isBalanced(), false);
        ship.setLimit(2);
        CHECK.due("-2 with a limit of 2", ship.isBalanced(), true);
    }
}
