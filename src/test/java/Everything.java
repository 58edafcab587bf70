import java.util.NoSuchElementException;

/**
 * All that a ship holds, also what no question of the face tells: the pump rates, the power, the limit, the next free
 * id, the input buffer, the changes that can be undone and the saved copy. Reading it uses the ship up, so a test
 * compares the readings of two ships that were made alike.
 */
final class Everything {
    private Everything() {
    }

    static String of(BallastControl ship) {
        StringBuilder text = new StringBuilder();
        text.append("line '").append(lineOf(ship)).append("', ").append(positionsOf(ship));
        text.append("\nchanges ").append(ship.undoableCount()).append(shipOf(ship));
        while (ship.undoableCount() > 0) {
            text.append("\nundo ").append(ship.undo()).append(shipOf(ship));
        }
        text.append("\nrun ").append(answerOf(ship::run)).append(", ").append(positionsOf(ship)).append(shipOf(ship));
        text.append("\nbuffer ").append(ship.append(' '));
        text.append("\nrestore ").append(answerOf(ship::restore)).append(shipOf(ship));
        return text.toString();
    }

    private static String answerOf(Check.Call call) {
        try {
            return call.answer().toString();
        } catch (RuntimeException e) {
            return e.getClass().getSimpleName();
        }
    }

    private static String lineOf(BallastControl ship) {
        StringBuilder line = new StringBuilder();
        while (true) {
            try {
                line.append(ship.lineChar(line.length()));
            } catch (IndexOutOfBoundsException e) {
                return line.toString();
            }
        }
    }

    private static String positionsOf(BallastControl ship) {
        return "error " + answerOf(ship::errorPosition) + ", failed " + answerOf(ship::failedCommand);
    }

    private static String shipOf(BallastControl ship) {
        StringBuilder text = new StringBuilder(" with minute ").append(ship.minute());
        text.append(", afloat ").append(ship.isAfloat()).append(", pumped ").append(ship.pumpedTotal());
        text.append(", log");
        for (int i = 0; i < 6; i++) {
            int position = i;
            text.append(' ').append(answerOf(() -> ship.loggedMinute(position)));
        }
        text.append(", storms ").append(Check.line(ship, ship.formatStorms()));
        for (int i = 0; i < ship.compartmentCount(); i++) {
            text.append("\n  ").append(Check.line(ship, ship.formatCompartment(i)));
            text.append(" pump ").append(pumpOf(ship, i));
            text.append(" cargo ").append(Check.line(ship, ship.formatCargo(i)));
        }
        text.append("\n  power ").append(powerOf(ship)).append(", limit ").append(limitOf(ship));
        return text.append(", next id ").append(nextIdOf(ship)).toString();
    }

    /** The rates and settings are told by the calls that set them, and these are undone at once. */
    static int pumpOf(BallastControl ship, int compartment) {
        int rate = ship.setPump(compartment, 1);
        ship.undo();
        return rate;
    }

    static int powerOf(BallastControl ship) {
        int power = ship.setPower(1);
        ship.undo();
        return power;
    }

    static int limitOf(BallastControl ship) {
        int limit = ship.setLimit(1);
        ship.undo();
        return limit;
    }

    /** A ship that is too heavy for any piece, or has no compartment for it, does not tell its next id. */
    static String nextIdOf(BallastControl ship) {
        int changes = 0;
        try {
            if (ship.pieceCount() == 16) {
                ship.unload(ship.idAt(0));
                changes++;
            }
            int id = ship.load(0, 1);
            changes++;
            return Integer.toString(id);
        } catch (IndexOutOfBoundsException | IllegalStateException | NoSuchElementException e) {
            return "untold";
        } finally {
            for (int i = 0; i < changes; i++) {
                ship.undo();
            }
        }
    }
}
