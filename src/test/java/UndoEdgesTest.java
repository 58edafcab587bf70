/**
 * The sentences of 'Undo' and of promises 62 to 65 that name a boundary, each with a test of its own that stands below
 * the sentence. What is refused, and that it changes nothing, is in RefusalTest.
 */
public final class UndoEdgesTest {
    private static final Check CHECK = new Check("UndoEdgesTest");

    private interface Call {
        void on(BallastControl ship);
    }

    /** Each kind of change to Ships.richWithEmptyBuffer(), first those with an effect, then those without one. */
    private static final Call[] CHANGES = {
        s -> s.addCompartment(-9, 10), s -> s.load(2, 50), s -> s.unload(0), s -> s.shift(2, 2), s -> s.setLeak(0, 20),
        s -> s.setPump(2, 20), s -> s.transfer(1, 0, 49), s -> s.balance(1), s -> s.setPower(8), s -> s.setLimit(9),
        s -> s.schedule(8, 9), s -> s.cancelStorm(12), s -> s.pass(1), s -> s.pass(120),
        s -> Check.run(s, "tank 1 50;load 3 7;unload 0;shift 2 3;leak 3 9;power 0"),
        s -> Check.run(s, "pump 1 1;move 1 0 9;storm 9 9;minutes 12"),
        s -> s.setLeak(0, 0), s -> s.setPump(2, 0), s -> s.setPower(2), s -> s.setLimit(2),
        s -> Check.run(s, "power 2")};

    public static void main(String[] args) {
        changesEvenWithoutEffect();
        upToEightChanges();
        theLatestChangeFirst();
        undoTakesBackEverythingOfAChange();
        undoneChangesAreGone();
        undoTakesBackARunAtOnce();
        undoLeavesTheBuffer();
        undoLeavesThePositions();
        undoLeavesTheLine();
        undoLeavesTheSavedCopy();
        noChangeCanBeUndone();
        saveIsNoChange();
        saveReplacesTheEarlierCopy();
        savedCopyIsACopy();
        restoreBringsBackEverything();
        restoreBringsBackEveryCompartment();
        restoreKeepsTheCopy();
        noChangesAfterRestore();
        restoreLeavesWhatUndoLeaves();
        noSavedCopy();
        CHECK.end();
    }

    /** "that return normally are changes, even if they have no effect". */
    private static void changesEvenWithoutEffect() {
        for (int i = 0; i < CHANGES.length; i++) {
            BallastControl ship = Ships.richWithEmptyBuffer();
            int before = ship.undoableCount();
            CHANGES[i].on(ship);
            CHECK.due("undoableCount after change " + i, ship.undoableCount(), before + 1);
        }
    }

    /** "Up to 8 changes can be undone" and "Returns the number, 0 to 8." */
    private static void upToEightChanges() {
        BallastControl ship = new BallastControl();
        CHECK.due("none at first", ship.undoableCount(), 0);
        for (int i = 1; i <= 30; i++) {
            ship.setLimit(1 + i % 9);
            CHECK.due("undoableCount", ship.undoableCount(), Math.min(i, 8));
        }
        for (int i = 7; i >= 0; i--) {
            CHECK.due("undo", ship.undo(), i);
        }
        CHECK.refused("a ninth undo", Check.STATE, () -> ship.undo());
        CHECK.due("the limit that can't be taken back", Everything.limitOf(ship), 1 + 22 % 9);
    }

    /** "the latest change first" and "Returns the number of changes that can still be undone." */
    private static void theLatestChangeFirst() {
        for (int changes = 0; changes <= 20; changes++) {
            BallastControl ship = new BallastControl();
            ship.addCompartment(0, 10);
            ship.save();
            ship.restore();
            for (int i = 1; i <= changes; i++) {
                ship.setLeak(0, i);
                CHECK.due("undoableCount", ship.undoableCount(), Math.min(i, 8));
            }
            int first = Math.max(changes - 8, 0);
            for (int i = changes - 1; i >= first; i--) {
                CHECK.due("undo", ship.undo(), i - first);
                CHECK.due("the leak", ship.leak(0), i);
            }
            CHECK.refused("one more undo", Check.STATE, () -> ship.undo());
            CHECK.due("the leak then", ship.leak(0), first);
        }
    }

    /** "Undoes the latest change that has not been undone." */
    private static void undoTakesBackEverythingOfAChange() {
        String before = Everything.of(Ships.richWithEmptyBuffer());
        for (int i = 0; i < CHANGES.length; i++) {
            BallastControl ship = Ships.richWithEmptyBuffer();
            CHANGES[i].on(ship);
            CHECK.due("undo of change " + i, ship.undo(), 4);
            CHECK.due("everything after undo of change " + i, Everything.of(ship), before);
        }
    }

    /** The same sentence: undo is no change, and a new change takes the place of the undone ones. */
    private static void undoneChangesAreGone() {
        BallastControl ship = new BallastControl();
        for (int i = 3; i <= 8; i++) {
            ship.setPower(i);
        }
        ship.undo();
        ship.undo();
        CHECK.due("undoableCount after two", ship.undoableCount(), 4);
        CHECK.due("the power", Everything.powerOf(ship), 6);
        ship.setPower(0);
        CHECK.due("undoableCount after a new one", ship.undoableCount(), 5);
        ship.undo();
        CHECK.due("the one before the undone ones", Everything.powerOf(ship), 6);
        ship.undo();
        CHECK.due("and the one before it", Everything.powerOf(ship), 5);
        CHECK.due("undoableCount", ship.undoableCount(), 3);
    }

    /** "run that return normally are changes": one change, whatever the number of its commands. */
    private static void undoTakesBackARunAtOnce() {
        BallastControl ship = new BallastControl();
        ship.setPower(8);
        Check.run(ship, "power 1;power 2;power 3;power 4;power 5;power 6;power 7");
        CHECK.due("undoableCount", ship.undoableCount(), 2);
        CHECK.due("undo", ship.undo(), 1);
        CHECK.due("the power before the run", Everything.powerOf(ship), 8);
        for (int i = 0; i < 8; i++) {
            Check.run(ship, "power 0;power 1");
        }
        CHECK.due("eight runs", ship.undoableCount(), 8);
    }

    /** "Undo does not affect the input buffer". */
    private static void undoLeavesTheBuffer() {
        BallastControl ship = Check.shipWithArms(1);
        Check.type(ship, "leak 0 ");
        ship.setLeak(0, 5);
        ship.undo();
        CHECK.due("what was typed before the change", ship.append('7'), 8);
        ship.setPump(0, 1);
        ship.undo();
        CHECK.due("run of it", ship.run(), 1);
        CHECK.due("the leak", ship.leak(0), 7);
        ship.undo();
        CHECK.due("undo of a run does not bring its program back", ship.append('l'), 1);
        BallastControl full = new BallastControl();
        full.setPower(1);
        Check.type(full, Ships.SIXTY);
        full.undo();
        CHECK.refused("a full buffer stays full", Check.STATE, () -> full.append('r'));
    }

    /** "the error position, the index of the failed command". */
    private static void undoLeavesThePositions() {
        BallastControl ship = new BallastControl();
        ship.setPower(1);
        CHECK.refused("malformed", Check.ARGUMENT, () -> Check.run(ship, "power"));
        CHECK.refused("failing", Check.STATE, () -> Check.run(ship, "power 1;power 9"));
        ship.undo();
        CHECK.due("the positions stored after the change", ship.errorPosition() + " " + ship.failedCommand(), "5 1");
        ship.setPower(1);
        CHECK.refused("malformed", Check.ARGUMENT, () -> Check.run(ship, "x"));
        CHECK.refused("failing", Check.STATE, () -> Check.run(ship, "power 9"));
        ship.undo();
        CHECK.due("the positions stored after this one", ship.errorPosition() + " " + ship.failedCommand(), "0 0");
    }

    /** "the formatted line". */
    private static void undoLeavesTheLine() {
        BallastControl ship = new BallastControl();
        ship.addCompartment(-1, 10);
        int length = ship.formatCompartment(0);
        ship.undo();
        CHECK.due("the line of a compartment that is gone", Check.line(ship, length), "C0 a-1 0/10 +0");
        CHECK.refused("its end", Check.INDEX, () -> ship.lineChar(length));
        ship.schedule(1, 1);
        ship.formatStorms();
        ship.undo();
        CHECK.due("the line of a storm that is gone", Check.line(ship, 3), "1!1");
    }

    /** "or the saved copy". */
    private static void undoLeavesTheSavedCopy() {
        BallastControl ship = new BallastControl();
        ship.addCompartment(1, 10);
        ship.addCompartment(2, 10);
        ship.save();
        ship.undo();
        ship.undo();
        CHECK.due("compartments", ship.compartmentCount(), 0);
        CHECK.due("restore of a copy saved after the undone changes", ship.restore(), 2);
        CHECK.due("an arm of it", ship.arm(1), 2);
    }

    /** "Throws IllegalStateException if no change can be undone". */
    private static void noChangeCanBeUndone() {
        BallastControl ship = new BallastControl();
        CHECK.refused("of a new ship", Check.STATE, () -> ship.undo());
        ship.setPower(1);
        CHECK.due("of one change", ship.undo(), 0);
        CHECK.refused("once more", Check.STATE, () -> ship.undo());
        CHECK.refused("a refused change", Check.ARGUMENT, () -> ship.setPower(9));
        CHECK.refused("a failing run", Check.STATE, () -> Check.run(ship, "power 1;power 9"));
        CHECK.refused("a malformed run", Check.ARGUMENT, () -> Check.run(ship, "power 1;"));
        ship.save();
        ship.formatStorms();
        CHECK.refused("these are no changes", Check.STATE, () -> ship.undo());
    }

    /** "Saves a copy of everything that changes can change" and "Returns the number of compartments." */
    private static void saveIsNoChange() {
        CHECK.due("save of a new ship", new BallastControl().save(), 0);
        CHECK.due("save of a full ship", Ships.full().save(), 8);
        BallastControl ship = Check.shipWithArms(1, 2);
        ship.save();
        CHECK.due("undoableCount", ship.undoableCount(), 2);
        CHECK.due("undo of the last compartment", ship.undo(), 1);
        CHECK.due("compartments", ship.compartmentCount(), 1);
    }

    /** "replacing an earlier copy". */
    private static void saveReplacesTheEarlierCopy() {
        BallastControl ship = Check.shipWithArms(1, 2);
        CHECK.due("the first", ship.save(), 2);
        ship.addCompartment(3, 10);
        CHECK.due("the second", ship.save(), 3);
        ship.addCompartment(4, 10);
        CHECK.due("restore of the second", ship.restore(), 3);
        ship.addCompartment(5, 10);
        ship.undo();
        CHECK.due("restore of the second again", ship.restore(), 3);
    }

    /** "Saves a copy": what changes later does not change it. */
    private static void savedCopyIsACopy() {
        BallastControl ship = Ships.richWithEmptyBuffer();
        ship.save();
        ship.restore();
        String restored = Everything.of(ship);
        for (Call change : CHANGES) {
            BallastControl changed = Ships.richWithEmptyBuffer();
            changed.save();
            change.on(changed);
            changed.restore();
            CHECK.due("everything after a change and restore", Everything.of(changed), restored);
        }
    }

    /** "Restores the saved copy": also on a ship that holds more, or less. */
    private static void restoreBringsBackEverything() {
        BallastControl full = Ships.full();
        full.save();
        String fully = Check.state(full);
        for (int id = 0; id < 16; id++) {
            full.unload(id);
        }
        full.setPower(8);
        full.pass(120);
        CHECK.due("restore of a full ship", full.restore(), 8);
        CHECK.due("the full ship", Check.state(full), fully);
        CHECK.due("its power", Everything.powerOf(full), 0);
        BallastControl bare = new BallastControl();
        String barely = Check.state(bare);
        bare.save();
        for (int i = 0; i < 8; i++) {
            bare.addCompartment(9, 200);
            bare.setLeak(i, 20);
            bare.load(i, 1);
        }
        bare.schedule(1, 1);
        bare.schedule(9, 1);
        bare.pass(8);
        CHECK.due("sunk", bare.isAfloat(), false);
        CHECK.due("restore of a new ship", bare.restore(), 0);
        CHECK.due("the new ship", Check.state(bare), barely);
        bare.addCompartment(1, 10);
        CHECK.due("the first id", bare.load(0, 1), 0);
    }

    /** The same sentence for each of eight compartments, in whose places others have been. */
    private static void restoreBringsBackEveryCompartment() {
        BallastControl ship = new BallastControl();
        for (int i = 0; i < 8; i++) {
            ship.addCompartment(i - 8, 20 + i);
        }
        ship.save();
        while (ship.undoableCount() > 0) {
            ship.undo();
        }
        for (int i = 0; i < 8; i++) {
            ship.addCompartment(9 - i, 100 + i);
            ship.setLeak(i, 1 + i);
            ship.setPump(i, 10 + i);
        }
        ship.pass(3);
        CHECK.due("another one in the last place", ship.arm(7) + " " + ship.capacity(7), "2 107");
        ship.restore();
        for (int i = 0; i < 8; i++) {
            CHECK.due("arm and capacity " + i, ship.arm(i) + " " + ship.capacity(i), (i - 8) + " " + (20 + i));
            CHECK.due("rates " + i, ship.leak(i) + " " + Everything.pumpOf(ship, i), "0 5");
            CHECK.due("water " + i, ship.water(i), 0);
        }
    }

    /** "which stays available". */
    private static void restoreKeepsTheCopy() {
        BallastControl ship = Check.shipWithArms(1);
        ship.save();
        for (int i = 0; i < 5; i++) {
            CHECK.due("restore", ship.restore(), 1);
            CHECK.due("a change of what was restored", ship.load(0, 1 + i), 0);
            ship.setLeak(0, 1 + i);
            ship.addCompartment(i, 10);
        }
        CHECK.due("restore of the same", ship.restore() + " " + ship.pieceCount() + " " + ship.leak(0), "1 0 0");
    }

    /** "No changes can be undone afterwards." */
    private static void noChangesAfterRestore() {
        for (int changes = 0; changes <= 9; changes++) {
            BallastControl ship = new BallastControl();
            ship.save();
            for (int i = 0; i < changes; i++) {
                ship.setPower(i % 9);
            }
            ship.restore();
            CHECK.due("undoableCount", ship.undoableCount(), 0);
            CHECK.refused("undo", Check.STATE, () -> ship.undo());
            CHECK.due("the power", ship.setPower(3), 2);
            CHECK.due("undo of the first change after it", ship.undo(), 0);
            CHECK.due("the power then", Everything.powerOf(ship), 2);
        }
    }

    /** The same of restore as of undo: what no change of the ship itself changes is left. */
    private static void restoreLeavesWhatUndoLeaves() {
        BallastControl ship = Check.shipWithArms(1, 2);
        ship.save();
        ship.setLeak(1, 7);
        CHECK.refused("malformed", Check.ARGUMENT, () -> Check.run(ship, "power"));
        CHECK.refused("failing", Check.STATE, () -> Check.run(ship, "power 1;power 9"));
        int length = ship.formatCompartment(1);
        Check.type(ship, "leak 0 ");
        ship.restore();
        CHECK.due("the positions", ship.errorPosition() + " " + ship.failedCommand(), "5 1");
        CHECK.due("the line", Check.line(ship, length), "C1 a2 0/100 +0 l7");
        CHECK.due("the buffer", ship.append('3'), 8);
        CHECK.due("run of it", ship.run() + " " + ship.leak(0), "1 3");
    }

    /** "Throws IllegalStateException if there is no saved copy". */
    private static void noSavedCopy() {
        BallastControl ship = Check.shipWithArms(1);
        CHECK.refused("at first", Check.STATE, () -> ship.restore());
        CHECK.due("the changes stay", ship.undoableCount(), 1);
        ship.undo();
        CHECK.refused("after undo", Check.STATE, () -> ship.restore());
        ship.save();
        CHECK.due("after save", ship.restore(), 0);
    }
}
