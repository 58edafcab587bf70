/** Promises 3 to 5 and 25 to 34: cargo, weight, moment and trim; and 35: whether the ship is balanced. */
public final class CargoTest {
    private static final Check CHECK = new Check("CargoTest");

    public static void main(String[] args) {
        promise3Load();
        promise3LoadUpToTheGreatestWeight();
        promise4Unload();
        promise5Shift();
        promises25To28Pieces();
        promise29HeaviestPiece();
        promises30To33WeightAndMoment();
        promise34Trim();
        promise35IsBalanced();
        CHECK.end();
    }

    private static void promise3Load() {
        BallastControl ship = Check.shipWithArms(1, 2);
        CHECK.refused("load(2, 0)", Check.INDEX, () -> ship.load(2, 0));
        CHECK.refused("load(-1, 1)", Check.INDEX, () -> ship.load(-1, 1));
        CHECK.refused("load(0, 0)", Check.ARGUMENT, () -> ship.load(0, 0));
        CHECK.refused("load(0, 51)", Check.ARGUMENT, () -> ship.load(0, 51));
        CHECK.refused("load(0, -1)", Check.ARGUMENT, () -> ship.load(0, -1));
        CHECK.due("pieces after refusals", ship.pieceCount(), 0);
        for (int i = 0; i < 16; i++) {
            CHECK.due("load", ship.load(i % 2, 1 + i * 3), i);
        }
        CHECK.refused("a seventeenth piece", Check.STATE, () -> ship.load(0, 1));
        CHECK.refused("a seventeenth piece of a wrong weight", Check.ARGUMENT, () -> ship.load(0, 51));
        ship.unload(15);
        CHECK.due("the next id is not used again", ship.load(0, 50), 16);
        CHECK.due("the weight of the heaviest", ship.weightOf(16), 50);
    }

    private static void promise3LoadUpToTheGreatestWeight() {
        BallastControl ship = new BallastControl();
        for (int i = 0; i < 5; i++) {
            ship.addCompartment(0, 200);
        }
        for (int i = 0; i < 4; i++) {
            Check.fill(ship, i, 200);
        }
        Check.fill(ship, 4, 70);
        CHECK.refused("901 tonnes", Check.STATE, () -> ship.load(0, 31));
        CHECK.due("900 tonnes", ship.load(0, 30), 0);
        CHECK.refused("1 tonne more", Check.STATE, () -> ship.load(0, 1));
        CHECK.due("weight", ship.weight(), 900);
        ship.setPower(0);
        ship.pass(1);
        CHECK.due("afloat with 900", ship.isAfloat(), true);
    }

    private static void promise4Unload() {
        BallastControl ship = Check.shipWithArms(1, 2);
        ship.load(0, 10);
        ship.load(1, 20);
        ship.load(0, 30);
        CHECK.due("unload(1)", ship.unload(1), 20);
        CHECK.refused("unload(1) again", Check.ELEMENT, () -> ship.unload(1));
        CHECK.refused("unload(3)", Check.ELEMENT, () -> ship.unload(3));
        CHECK.refused("unload(-1)", Check.ELEMENT, () -> ship.unload(-1));
        CHECK.due("pieceCount", ship.pieceCount(), 2);
        CHECK.due("id at 1", ship.idAt(1), 2);
        CHECK.due("weight of 2", ship.weightOf(2), 30);
        CHECK.due("compartment of 2", ship.compartmentOf(2), 0);
        CHECK.due("weight", ship.weight(), 40);
        CHECK.due("unload(2)", ship.unload(2), 30);
        CHECK.due("unload(0)", ship.unload(0), 10);
        CHECK.refused("unload(0) again", Check.ELEMENT, () -> ship.unload(0));
    }

    private static void promise5Shift() {
        BallastControl ship = Check.shipWithArms(1, 2, 3);
        ship.load(0, 10);
        ship.load(2, 20);
        CHECK.refused("no piece", Check.ELEMENT, () -> ship.shift(2, 7));
        CHECK.refused("no negative piece", Check.ELEMENT, () -> ship.shift(-1, 0));
        CHECK.refused("no compartment", Check.INDEX, () -> ship.shift(0, 3));
        CHECK.refused("no negative compartment", Check.INDEX, () -> ship.shift(0, -1));
        CHECK.refused("the same compartment", Check.STATE, () -> ship.shift(1, 2));
        CHECK.due("shift(1, 0)", ship.shift(1, 0), 2);
        CHECK.due("compartmentOf(1)", ship.compartmentOf(1), 0);
        CHECK.due("compartmentOf(0)", ship.compartmentOf(0), 0);
        CHECK.due("loadOf(0)", ship.loadOf(0), 30);
        CHECK.due("loadOf(2)", ship.loadOf(2), 0);
        CHECK.due("shift(1, 1)", ship.shift(1, 1), 0);
    }

    private static void promises25To28Pieces() {
        BallastControl ship = Check.shipWithArms(1, 2);
        ship.load(0, 11);
        ship.load(1, 12);
        ship.load(1, 13);
        ship.unload(0);
        ship.load(0, 14);
        CHECK.due("pieceCount", ship.pieceCount(), 3);
        int[] ids = {1, 2, 3};
        for (int i = 0; i < 3; i++) {
            CHECK.due("idAt(" + i + ")", ship.idAt(i), ids[i]);
        }
        for (int wrong : new int[] {-1, 3, 16, Integer.MIN_VALUE, Integer.MAX_VALUE}) {
            CHECK.refused("idAt(" + wrong + ")", Check.INDEX, () -> ship.idAt(wrong));
        }
        CHECK.due("weightOf(1)", ship.weightOf(1), 12);
        CHECK.due("weightOf(3)", ship.weightOf(3), 14);
        CHECK.due("compartmentOf(2)", ship.compartmentOf(2), 1);
        CHECK.due("compartmentOf(3)", ship.compartmentOf(3), 0);
        for (int wrong : new int[] {-1, 0, 4, Integer.MIN_VALUE, Integer.MAX_VALUE}) {
            CHECK.refused("weightOf(" + wrong + ")", Check.ELEMENT, () -> ship.weightOf(wrong));
            CHECK.refused("compartmentOf(" + wrong + ")", Check.ELEMENT, () -> ship.compartmentOf(wrong));
        }
    }

    private static void promise29HeaviestPiece() {
        BallastControl ship = Check.shipWithArms(1);
        CHECK.refused("without pieces", Check.ELEMENT, () -> ship.heaviestPiece());
        ship.load(0, 10);
        ship.load(0, 30);
        ship.load(0, 20);
        ship.load(0, 30);
        CHECK.due("heaviestPiece", ship.heaviestPiece(), 1);
        ship.unload(1);
        CHECK.due("heaviestPiece then", ship.heaviestPiece(), 3);
        ship.unload(3);
        ship.unload(2);
        CHECK.due("the only piece", ship.heaviestPiece(), 0);
        ship.unload(0);
        CHECK.refused("without pieces again", Check.ELEMENT, () -> ship.heaviestPiece());
    }

    private static void promises30To33WeightAndMoment() {
        BallastControl ship = Check.shipWithArms(-3, 4, 0);
        Check.fill(ship, 0, 17);
        Check.fill(ship, 1, 5);
        Check.fill(ship, 2, 50);
        ship.load(0, 8);
        ship.load(1, 3);
        ship.load(1, 9);
        CHECK.due("weight", ship.weight(), 92);
        CHECK.due("weightByParts", ship.weightByParts(), 92);
        CHECK.due("moment", ship.moment(), -3 * 25 + 4 * 17);
        CHECK.due("momentByParts", ship.momentByParts(), -3 * 25 + 4 * 17);
    }

    private static void promise34Trim() {
        BallastControl ship = Check.shipWithArms(9, -9);
        Check.fill(ship, 0, 12);
        CHECK.due("108 by 112", ship.trim(), 0);
        ship.load(0, 1);
        CHECK.due("117 by 113", ship.trim(), 1);
        Check.fill(ship, 1, 25);
        CHECK.due("-108 by 138", ship.trim(), 0);
        ship.load(1, 10);
        CHECK.due("-198 by 148", ship.trim(), -1);
    }

    private static void promise35IsBalanced() {
        BallastControl ship = new BallastControl();
        ship.addCompartment(9, 200);
        ship.addCompartment(-9, 200);
        Check.fill(ship, 0, 199);
        CHECK.due("trim 5", ship.trim(), 1791 / 299);
        CHECK.due("balanced with trim 5", ship.isBalanced(), true);
        ship.load(0, 1);
        CHECK.due("trim 6", ship.trim(), 6);
        CHECK.due("balanced with trim 6", ship.isBalanced(), false);
        ship.setLimit(6);
        CHECK.due("balanced with limit 6", ship.isBalanced(), true);
        ship.transfer(0, 1, 199);
        ship.shift(0, 1);
        CHECK.due("trim -6", ship.trim(), -6);
        CHECK.due("balanced with trim -6", ship.isBalanced(), true);
        ship.setLimit(5);
        CHECK.due("balanced with trim -6 and limit 5", ship.isBalanced(), false);
    }
}
