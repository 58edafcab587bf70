/** Promises 62 to 65: undo, save and restore; and what of the other calls is a change. */
public final class UndoTest {
    private static final Check CHECK = new Check("UndoTest");

    public static void main(String[] args) {
        promise62EveryChangeCounts();
        promise62RefusalsAndQuestionsDoNotCount();
        promise62UpToEight();
        promise63UndoesEachChange();
        promise63UndoAfterUndo();
        promise63LeavesTheRestAlone();
        promise64And65SaveAndRestore();
        promise65LeavesTheRestAlone();
        CHECK.end();
    }

    private static void promise62EveryChangeCounts() {
        BallastControl ship = new BallastControl();
        ship.addCompartment(9, 100);
        CHECK.due("addCompartment", ship.undoableCount(), 1);
        ship.load(0, 50);
        CHECK.due("load", ship.undoableCount(), 2);
        Check.run(ship, "tank -9 50;leak 0 20;minutes 3;leak 0 0");
        CHECK.due("a run of several commands", ship.undoableCount(), 3);
        ship.shift(0, 1);
        CHECK.due("shift", ship.undoableCount(), 4);
        ship.setLeak(0, 0);
        CHECK.due("setLeak without effect", ship.undoableCount(), 5);
        ship.setPump(0, 5);
        CHECK.due("setPump without effect", ship.undoableCount(), 6);
        ship.setPower(2);
        CHECK.due("setPower without effect", ship.undoableCount(), 7);
        ship.setLimit(5);
        CHECK.due("setLimit without effect", ship.undoableCount(), 8);
        BallastControl other = Check.shipWithArms(9, -9);
        Check.fill(other, 0, 60);
        other.save();
        other.restore();
        other.transfer(0, 1, 10);
        CHECK.due("transfer", other.undoableCount(), 1);
        other.balance(10);
        CHECK.due("balance", other.undoableCount(), 2);
        other.schedule(100, 1);
        CHECK.due("schedule", other.undoableCount(), 3);
        other.cancelStorm(100);
        CHECK.due("cancelStorm", other.undoableCount(), 4);
        other.pass(1);
        CHECK.due("pass", other.undoableCount(), 5);
        other.load(0, 1);
        other.unload(0);
        CHECK.due("unload", other.undoableCount(), 7);
    }

    private static void promise62RefusalsAndQuestionsDoNotCount() {
        BallastControl ship = Check.shipWithArms(1, 2);
        ship.addCompartment(3, 100);
        CHECK.refused("addCompartment", Check.ARGUMENT, () -> ship.addCompartment(10, 1));
        CHECK.refused("load", Check.INDEX, () -> ship.load(9, 1));
        CHECK.refused("unload", Check.ELEMENT, () -> ship.unload(0));
        CHECK.refused("shift", Check.ELEMENT, () -> ship.shift(0, 0));
        CHECK.refused("setLeak", Check.ARGUMENT, () -> ship.setLeak(0, 21));
        CHECK.refused("setPump", Check.ARGUMENT, () -> ship.setPump(0, 21));
        CHECK.refused("transfer", Check.STATE, () -> ship.transfer(0, 1, 1));
        CHECK.refused("balance", Check.STATE, () -> ship.balance(1));
        CHECK.refused("setPower", Check.ARGUMENT, () -> ship.setPower(9));
        CHECK.refused("setLimit", Check.ARGUMENT, () -> ship.setLimit(10));
        CHECK.refused("schedule", Check.ARGUMENT, () -> ship.schedule(0, 1));
        CHECK.refused("cancelStorm", Check.ELEMENT, () -> ship.cancelStorm(1));
        CHECK.refused("pass", Check.ARGUMENT, () -> ship.pass(0));
        CHECK.refused("run, malformed", Check.ARGUMENT, () -> ship.run());
        CHECK.refused("run, failing", Check.STATE, () -> Check.run(ship, "power 1;power 9"));
        ship.momentAfter(100);
        ship.isConsistent();
        ship.formatStorms();
        ship.save();
        CHECK.due("undoableCount", ship.undoableCount(), 3);
        CHECK.due("undo", ship.undo(), 2);
        CHECK.due("compartments", ship.compartmentCount(), 2);
    }

    private static void promise62UpToEight() {
        BallastControl ship = new BallastControl();
        ship.addCompartment(0, 100);
        for (int i = 1; i <= 20; i++) {
            ship.setLeak(0, i);
            CHECK.due("undoableCount", ship.undoableCount(), Math.min(i + 1, 8));
        }
        for (int i = 7; i >= 0; i--) {
            CHECK.due("undo", ship.undo(), i);
            CHECK.due("leak", ship.leak(0), 12 + i);
        }
        CHECK.refused("a ninth undo", Check.STATE, () -> ship.undo());
        CHECK.due("leak after the refusal", ship.leak(0), 12);
        CHECK.refused("undo of a new ship", Check.STATE, () -> new BallastControl().undo());
    }

    private interface Change {
        void make(BallastControl ship);
    }

    private static void promise63UndoesEachChange() {
        Change[] changes = {
            s -> s.addCompartment(1, 77), s -> s.load(1, 5), s -> s.unload(0), s -> s.shift(0, 1),
            s -> s.setLeak(0, 9), s -> s.setPump(0, 0), s -> s.transfer(0, 1, 5), s -> s.balance(5),
            s -> s.setPower(0), s -> s.setLimit(1), s -> s.schedule(50, 3), s -> s.cancelStorm(20),
            s -> s.pass(10), s -> s.pass(120), s -> Check.run(s, "minutes 30;unload 0;load 0 3;tank 1 10")};
        for (int i = 0; i < changes.length; i++) {
            BallastControl ship = Check.shipWithArms(9, -9);
            Check.fill(ship, 0, 100);
            ship.load(0, 40);
            ship.schedule(20, 4);
            ship.schedule(6, 1);
            ship.setLeak(1, 20);
            ship.pass(2);
            String before = Check.state(ship);
            changes[i].make(ship);
            CHECK.due("undo of change " + i, ship.undo(), 7);
            CHECK.due("state after undo of change " + i, Check.state(ship), before);
            CHECK.due("pump after undo of change " + i, ship.setPump(0, 5), 5);
            CHECK.due("power after undo of change " + i, ship.setPower(2), 2);
            CHECK.due("limit after undo of change " + i, ship.setLimit(5), 5);
            CHECK.due("next id after undo of change " + i, ship.load(0, 1), 1);
        }
    }

    private static void promise63UndoAfterUndo() {
        BallastControl ship = new BallastControl();
        ship.setPower(3);
        ship.setPower(4);
        ship.setPower(5);
        ship.undo();
        ship.setPower(6);
        CHECK.due("undo of the new change", ship.undo(), 2);
        CHECK.due("undo of the one before the undone", ship.undo(), 1);
        CHECK.due("power", ship.setPower(7), 3);
        CHECK.due("undo", ship.undo(), 1);
        CHECK.due("undo of the first", ship.undo(), 0);
        CHECK.due("power at first", ship.setPower(1), 2);
    }

    private static void promise63LeavesTheRestAlone() {
        BallastControl ship = new BallastControl();
        ship.addCompartment(1, 50);
        ship.save();
        ship.addCompartment(2, 50);
        CHECK.refused("malformed", Check.ARGUMENT, () -> Check.run(ship, "minus"));
        CHECK.refused("failing", Check.STATE, () -> Check.run(ship, "power 1;power 9"));
        ship.formatCompartment(1);
        ship.append('p');
        ship.undo();
        ship.undo();
        CHECK.due("errorPosition", ship.errorPosition(), 4);
        CHECK.due("failedCommand", ship.failedCommand(), 1);
        CHECK.due("the line", Check.line(ship, 12), "C1 a2 0/50 +");
        CHECK.due("the buffer", ship.append('o'), 2);
        CHECK.due("the saved copy", ship.restore(), 1);
        Check.type(ship, "wer 1");
        CHECK.due("the program", ship.run(), 1);
        ship.undo();
        CHECK.due("undo of run leaves the buffer empty", ship.append('x'), 1);
    }

    private static void promise64And65SaveAndRestore() {
        BallastControl ship = Check.shipWithArms(9, -9);
        CHECK.refused("restore at first", Check.STATE, () -> ship.restore());
        Check.fill(ship, 0, 100);
        ship.load(0, 40);
        ship.schedule(20, 4);
        ship.schedule(6, 1);
        ship.setLeak(1, 20);
        ship.setPump(1, 3);
        ship.setPower(1);
        ship.setLimit(4);
        ship.pass(2);
        String before = Check.state(ship);
        CHECK.due("save", ship.save(), 2);
        CHECK.due("save does not touch the changes", ship.undoableCount(), 8);
        CHECK.due("save does not touch the ship", Check.state(ship), before);
        for (int i = 0; i < 2; i++) {
            Check.run(ship, "tank 1 77;pump 1 9;power 8;minutes 30;unload 0;load 0 7");
            ship.setLimit(9);
            CHECK.due("restore", ship.restore(), 2);
            CHECK.due("the restored ship", Check.state(ship), before);
            CHECK.due("no changes", ship.undoableCount(), 0);
            CHECK.refused("undo after restore", Check.STATE, () -> ship.undo());
            CHECK.due("the pump", ship.setPump(1, 1), 3);
            CHECK.due("the power", ship.setPower(2), 1);
            CHECK.due("the limit", ship.setLimit(5), 4);
            CHECK.due("the next id", ship.load(0, 1), 1);
        }
        ship.addCompartment(0, 10);
        CHECK.due("save again", ship.save(), 3);
        ship.addCompartment(0, 10);
        CHECK.due("the latest copy", ship.restore(), 3);
    }

    private static void promise65LeavesTheRestAlone() {
        BallastControl ship = new BallastControl();
        ship.save();
        ship.addCompartment(2, 50);
        CHECK.refused("malformed", Check.ARGUMENT, () -> Check.run(ship, "minus"));
        CHECK.refused("failing", Check.STATE, () -> Check.run(ship, "power 1;power 9"));
        ship.formatCompartment(0);
        ship.append('p');
        CHECK.due("restore", ship.restore(), 0);
        CHECK.due("errorPosition", ship.errorPosition(), 4);
        CHECK.due("failedCommand", ship.failedCommand(), 1);
        CHECK.due("the line", Check.line(ship, 12), "C0 a2 0/50 +");
        CHECK.due("the buffer", ship.append('o'), 2);
    }
}
