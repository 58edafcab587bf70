/** Ships of every kind for the tests of edges; each call makes the same one anew. */
final class Ships {
    static final String SIXTY = "power 1;power 2;power 3;power 4;power 5;power 6;power 7;powe";

    private Ships() {
    }

    /**
     * Minute 7, three compartments with 0 of 60, 49 of 100 and 10 of 10 tonnes, pieces 0 and 2 in compartments 0 and 1
     * (piece 1 is unloaded), storms at 12 and 16, one storm in the log, four changes to undo, a saved copy, an error
     * position of 3, a failed command 1, a formatted line, and the buffer "power 7".
     */
    static BallastControl rich() {
        BallastControl ship = richWithEmptyBuffer();
        Check.type(ship, "power 7");
        return ship;
    }

    static BallastControl richWithEmptyBuffer() {
        BallastControl ship = new BallastControl();
        ship.addCompartment(-4, 60);
        ship.addCompartment(6, 100);
        ship.addCompartment(2, 10);
        ship.load(0, 20);
        ship.load(1, 5);
        ship.load(0, 30);
        ship.unload(1);
        Check.fill(ship, 1, 80);
        ship.transfer(1, 2, 10);
        ship.schedule(5, 3);
        ship.setPump(1, 10);
        ship.setPump(2, 0);
        ship.pass(3);
        ship.schedule(12, 2);
        ship.schedule(16, 4);
        ship.save();
        ship.restore();
        failBothWays(ship);
        ship.setLeak(0, 0);
        ship.setLeak(1, 4);
        ship.setLimit(2);
        ship.shift(2, 1);
        ship.formatCargo(1);
        return ship;
    }

    private static void failBothWays(BallastControl ship) {
        for (String program : new String[] {"powder", "power 1;power 9"}) {
            Check.type(ship, program);
            try {
                ship.run();
            } catch (IllegalArgumentException | IllegalStateException e) {
                continue;
            }
        }
    }

    /** Eight full compartments of 10 tonnes, sixteen pieces, six storms and six in the log, and sixty characters. */
    static BallastControl full() {
        BallastControl ship = new BallastControl();
        for (int i = 0; i < 8; i++) {
            ship.addCompartment(i - 4, 10);
            ship.setLeak(i, 20);
        }
        ship.setPower(0);
        for (int i = 1; i <= 6; i++) {
            ship.schedule(i, 9);
        }
        ship.pass(6);
        for (int i = 0; i < 16; i++) {
            ship.load(i % 8, 50);
        }
        for (int i = 1; i <= 6; i++) {
            ship.schedule(6 + i, 9);
        }
        Check.type(ship, SIXTY);
        return ship;
    }

    /** Five compartments of 200 tonnes at arms -2 to 2; 850 tonnes of water and a piece of 50 tonnes in the first. */
    static BallastControl heavy() {
        BallastControl ship = new BallastControl();
        for (int i = 0; i < 5; i++) {
            ship.addCompartment(i - 2, 200);
        }
        for (int i = 0; i < 4; i++) {
            Check.fill(ship, i, 200);
        }
        Check.fill(ship, 4, 50);
        ship.load(0, 50);
        return ship;
    }

    /** The heavy ship, sunk by one tonne more. */
    static BallastControl sunk() {
        BallastControl ship = heavy();
        ship.setPower(0);
        ship.setLeak(4, 1);
        ship.pass(1);
        return ship;
    }
}
