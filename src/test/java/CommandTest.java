/** Promises 58 to 61: the input buffer and its programs. */
public final class CommandTest {
    private static final Check CHECK = new Check("CommandTest");

    public static void main(String[] args) {
        promise58Append();
        promise59RunsEachCommand();
        promise59MinusAndLeadingZeros();
        promise59AllOrNone();
        promise59EachCommandCanFail();
        promise59BufferIsEmptyAfterwards();
        promise60ErrorPositionsOfKeywords();
        promise60ErrorPositionsOfArguments();
        promise60ErrorPositionsOfTheWhole();
        promise60AndAnswersBeforeAnyError();
        promise61FailedCommand();
        CHECK.end();
    }

    private static void promise58Append() {
        BallastControl ship = new BallastControl();
        CHECK.refused("a sign below the blank", Check.ARGUMENT, () -> ship.append((char) 31));
        CHECK.refused("a sign above the tilde", Check.ARGUMENT, () -> ship.append((char) 127));
        CHECK.refused("a sign far above", Check.ARGUMENT, () -> ship.append((char) 65535));
        CHECK.refused("the sign 0", Check.ARGUMENT, () -> ship.append((char) 0));
        CHECK.due("the blank", ship.append(' '), 1);
        CHECK.due("the tilde", ship.append('~'), 2);
        for (int i = 3; i <= 60; i++) {
            CHECK.due("append", ship.append('a'), i);
        }
        CHECK.refused("the 61st character", Check.STATE, () -> ship.append('a'));
        CHECK.refused("a wrong 61st character", Check.ARGUMENT, () -> ship.append((char) 31));
        CHECK.refused("run", Check.ARGUMENT, () -> ship.run());
        CHECK.due("append after run", ship.append('a'), 1);
    }

    private static void promise59RunsEachCommand() {
        BallastControl ship = new BallastControl();
        CHECK.due("tank", Check.run(ship, "tank -9 200;tank 9 10;tank 0 100"), 3);
        CHECK.due("compartments", ship.compartmentCount(), 3);
        CHECK.due("arm of 0", ship.arm(0), -9);
        CHECK.due("capacity of 1", ship.capacity(1), 10);
        CHECK.due("load", Check.run(ship, "load 0 50;load 2 7;load 1 3"), 3);
        CHECK.due("weights", ship.weightOf(0) * 100 + ship.weightOf(1), 5007);
        CHECK.due("compartmentOf(1)", ship.compartmentOf(1), 2);
        CHECK.due("unload", Check.run(ship, "unload 2"), 1);
        CHECK.due("pieces", ship.pieceCount(), 2);
        CHECK.due("shift", Check.run(ship, "shift 1 0"), 1);
        CHECK.due("compartmentOf(1) then", ship.compartmentOf(1), 0);
        CHECK.due("leak and pump", Check.run(ship, "leak 2 20;pump 2 3"), 2);
        CHECK.due("leak(2)", ship.leak(2), 20);
        CHECK.due("pump(2)", ship.setPump(2, 3), 3);
        CHECK.due("storm and minutes", Check.run(ship, "storm 2 9;storm 999 1;minutes 3"), 3);
        CHECK.due("minute", ship.minute(), 3);
        CHECK.due("water(2)", ship.water(2), 51);
        CHECK.due("leak(0) after the storm", ship.leak(0), 9);
        CHECK.due("stormCount", ship.stormCount(), 1);
        CHECK.due("move", Check.run(ship, "move 2 0 11"), 1);
        CHECK.due("water(2) then", ship.water(2), 40);
        CHECK.due("water(0) then", ship.water(0), 11 + 9 + 9 - 5 - 5);
        CHECK.due("power", Check.run(ship, "power 7"), 1);
        CHECK.due("power then", ship.setPower(2), 7);
    }

    private static void promise59MinusAndLeadingZeros() {
        BallastControl ship = new BallastControl();
        CHECK.due("a minus before 0, and zeros", Check.run(ship, "tank -0 010;load 0 007;unload 000"), 3);
        CHECK.due("arm", ship.arm(0), 0);
        CHECK.due("capacity", ship.capacity(0), 10);
        CHECK.due("seven commands of 8 characters", Check.run(ship,
                "power 1;power 2;power 3;power 4;power 5;power 6;power 7"), 7);
        CHECK.due("the last one holds", ship.setPower(0), 7);
        ship.schedule(3, 1);
        CHECK.due("minutes that sink no ship", Check.run(ship, "minutes 120"), 1);
        CHECK.due("minute", ship.minute(), 120);
    }

    private static void promise59AllOrNone() {
        BallastControl ship = Check.shipWithArms(2, -3);
        ship.load(0, 9);
        Check.fill(ship, 1, 30);
        ship.schedule(6, 2);
        ship.pass(2);
        String before = Check.state(ship);
        int changes = ship.undoableCount();
        String[] failing = {
            "tank 1 50;tank 1 9", "load 0 5;load 1 51", "unload 0;unload 0", "shift 0 1;shift 0 1",
            "leak 0 4;leak 2 4", "pump 0 4;pump 0 21", "move 1 0 5;move 1 0 99", "power 3;power 9",
            "storm 9 9;storm 9 9", "minutes 100;minutes 0", "minutes 9;load 0 5;unload 0;unload 0"};
        for (String program : failing) {
            CHECK.refused(program, Check.STATE, () -> Check.run(ship, program));
            CHECK.due("state after " + program, Check.state(ship), before);
            CHECK.due("changes after " + program, ship.undoableCount(), changes);
        }
        CHECK.due("the power", ship.setPower(2), 2);
        CHECK.due("the pump", ship.setPump(0, 5), 5);
        CHECK.due("the next id", ship.load(0, 1), 1);
        CHECK.refused("malformed at its end", Check.ARGUMENT, () -> Check.run(ship, "tank 1 50;tank"));
        CHECK.due("nothing of it is executed", ship.compartmentCount(), 2);
    }

    private static void promise59EachCommandCanFail() {
        BallastControl ship = Check.shipWithArms(2, -3);
        ship.load(0, 9);
        ship.schedule(5, 1);
        String[] failing = {
            "tank 1 9", "tank 1 201", "load 2 1", "load 0 0", "load 0 51", "unload 1", "shift 1 1", "shift 0 2",
            "shift 0 0", "leak 2 1", "leak 0 21", "pump 2 1", "pump 0 21", "move 0 2 1", "move 2 0 1", "move 0 1 0",
            "move 0 1 201", "move 0 1 1", "power 9", "storm 0 1", "storm 1 0", "storm 5 1", "minutes 0", "minutes 121"};
        for (String command : failing) {
            CHECK.refused(command, Check.STATE, () -> Check.run(ship, command));
        }
        for (int i = 0; i < 6; i++) {
            ship.addCompartment(0, 10);
        }
        CHECK.refused("a ninth compartment", Check.STATE, () -> Check.run(ship, "tank 1 10"));
    }

    private static void promise59BufferIsEmptyAfterwards() {
        BallastControl ship = new BallastControl();
        Check.run(ship, "power 1");
        CHECK.due("append after a program", ship.append('u'), 1);
        CHECK.refused("a malformed program", Check.ARGUMENT, () -> ship.run());
        CHECK.due("append after a malformed one", ship.append('u'), 1);
        Check.type(ship, "nload 0");
        CHECK.refused("a failing program", Check.STATE, () -> ship.run());
        CHECK.due("append after a failing one", ship.append('p'), 1);
        Check.type(ship, "ower 3");
        CHECK.due("run", ship.run(), 1);
    }

    private static void dueError(String program, int position) {
        BallastControl ship = new BallastControl();
        CHECK.refused("run of '" + program + "'", Check.ARGUMENT, () -> Check.run(ship, program));
        CHECK.due("error position of '" + program + "'", ship.errorPosition(), position);
    }

    private static void promise60ErrorPositionsOfKeywords() {
        dueError("", 0);
        dueError(" ", 0);
        dueError("x", 0);
        dueError("Tank 1 10", 0);
        dueError(";", 0);
        dueError("1", 0);
        dueError("t", 1);
        dueError("tank", 4);
        dueError("tanks 1 10", 4);
        dueError("l", 1);
        dueError("lo", 2);
        dueError("lx", 1);
        dueError("leak;", 4);
        dueError("lead 0 1", 3);
        dueError("loak 0 1", 3);
        dueError("leod 0 1", 2);
        dueError("unlock", 4);
        dueError("shaft", 2);
        dueError("sxift", 1);
        dueError("sturm 1 1", 2);
        dueError("pimp 0 1", 1);
        dueError("pumpe", 4);
        dueError("powder", 3);
        dueError("minus", 4);
        dueError("minute 5", 6);
        dueError("move", 4);
        dueError("mive", 2);
        dueError("moves", 4);
    }

    private static void promise60ErrorPositionsOfArguments() {
        dueError("tank ", 5);
        dueError("tank -", 6);
        dueError("tank --1", 6);
        dueError("tank - 1", 6);
        dueError("tank a", 5);
        dueError("tank 11 10", 6);
        dueError("tank -1", 7);
        dueError("tank -1;", 7);
        dueError("tank -1 ", 8);
        dueError("tank 1 -1", 7);
        dueError("tank 1  10", 7);
        dueError("tank 1 1000", 10);
        dueError("tank 1 10 ", 9);
        dueError("load -1 5", 5);
        dueError("load 10 5", 6);
        dueError("unload -1", 7);
        dueError("unload 1234", 10);
        dueError("unload 1 2", 8);
        dueError("shift 12", 8);
        dueError("shift 1234 1", 9);
        dueError("shift 12 10", 10);
        dueError("shift 12 ", 9);
        dueError("shift 12 x", 9);
        dueError("leak 0", 6);
        dueError("pump 0 ", 7);
        dueError("move 0 1", 8);
        dueError("move 0 1 ", 9);
        dueError("move 0 10 5", 8);
        dueError("move 0 1 2000", 12);
        dueError("power ", 6);
        dueError("power 10", 7);
        dueError("power -", 6);
        dueError("storm 5", 7);
        dueError("storm 5 10", 9);
        dueError("minutes ", 8);
        dueError("minutes 1a", 9);
        dueError("minutes 1200", 11);
    }

    private static void promise60ErrorPositionsOfTheWhole() {
        dueError("power 1;", 8);
        dueError("power 1;;", 8);
        dueError("power 1; power 2", 8);
        dueError("power 1 ;power 2", 7);
        dueError("power 1;power", 13);
        dueError("power 1,power 2", 7);
        dueError("power 9;power x", 14);
        String seven = "power 1;power 2;power 3;power 4;power 5;power 6;power 7;";
        dueError(seven, 56);
        dueError(seven + "powe", 60);
        dueError(seven + "pox", 58);
    }

    private static void promise60AndAnswersBeforeAnyError() {
        BallastControl ship = new BallastControl();
        CHECK.refused("errorPosition at first", Check.ELEMENT, () -> ship.errorPosition());
        CHECK.refused("power 9", Check.STATE, () -> Check.run(ship, "power 9"));
        CHECK.refused("errorPosition after a failed command", Check.ELEMENT, () -> ship.errorPosition());
        CHECK.refused("powder", Check.ARGUMENT, () -> Check.run(ship, "powder"));
        CHECK.due("errorPosition", ship.errorPosition(), 3);
        Check.run(ship, "power 8");
        CHECK.refused("power 9", Check.STATE, () -> Check.run(ship, "power 9"));
        CHECK.due("errorPosition stays", ship.errorPosition(), 3);
        CHECK.refused("x", Check.ARGUMENT, () -> Check.run(ship, "x"));
        CHECK.due("the latest errorPosition", ship.errorPosition(), 0);
    }

    private static void promise61FailedCommand() {
        BallastControl ship = new BallastControl();
        CHECK.refused("failedCommand at first", Check.ELEMENT, () -> ship.failedCommand());
        CHECK.refused("powder", Check.ARGUMENT, () -> Check.run(ship, "powder"));
        CHECK.refused("failedCommand after a malformed program", Check.ELEMENT, () -> ship.failedCommand());
        CHECK.refused("the third fails", Check.STATE, () -> Check.run(ship, "power 1;power 2;power 9;power 9"));
        CHECK.due("failedCommand", ship.failedCommand(), 2);
        Check.run(ship, "power 1;power 2");
        CHECK.refused("powder", Check.ARGUMENT, () -> Check.run(ship, "powder"));
        CHECK.due("failedCommand stays", ship.failedCommand(), 2);
        CHECK.refused("the first fails", Check.STATE, () -> Check.run(ship, "unload 0;power 9"));
        CHECK.due("the latest failedCommand", ship.failedCommand(), 0);
    }
}
