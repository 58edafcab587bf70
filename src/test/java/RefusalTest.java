/**
 * The section 'Errors': each condition of each method throws what the document names, the one that is listed first
 * where several apply, and leaves everything unchanged.
 */
public final class RefusalTest {
    private static final Check CHECK = new Check("RefusalTest");
    private static final int LEAST = Integer.MIN_VALUE;
    private static final int GREATEST = Integer.MAX_VALUE;

    private interface Make {
        BallastControl ship();
    }

    private interface Call {
        Object on(BallastControl ship);
    }

    private interface CallOf {
        Object on(BallastControl ship, int argument);
    }

    /** A kind of ship, and all that it holds before the refused call. */
    private static final class Kind {
        final String name;
        final Make make;
        final String everything;

        Kind(String name, Make make) {
            this.name = name;
            this.make = make;
            this.everything = Everything.of(make.ship());
        }
    }

    private static final Kind BARE = new Kind("bare", BallastControl::new);
    private static final Kind RICH = new Kind("rich", Ships::rich);
    private static final Kind FULL = new Kind("full", Ships::full);
    private static final Kind HEAVY = new Kind("heavy", Ships::heavy);
    private static final Kind SUNK = new Kind("sunk", Ships::sunk);

    public static void main(String[] args) {
        promise2AddCompartment();
        promise3Load();
        promise4Unload();
        promise5Shift();
        promises6And7Rates();
        promise8TransferOfWrongArguments();
        promise8TransferThatIsNotPossible();
        promise9Balance();
        promises10And11Settings();
        promise12Schedule();
        promises13And48StormOfAMinute();
        promise14Pass();
        promises17To22And54And55Compartments();
        promise24MinutesUntilFull();
        promises23And45And49Ranks();
        promises26To29Pieces();
        promises37To39BestTransfer();
        promise40TransfersToBalance();
        promises41And42BestShift();
        promises43And44Minutes();
        promise47NextStorm();
        promises51And52Means();
        promise57LineChar();
        promise58Append();
        promises60And61Positions();
        promises63And65UndoAndRestore();
        questionsLeaveEverything();
        CHECK.end();
    }

    private static void refused(Kind kind, Class<?> want, String what, Call call) {
        BallastControl ship = kind.make.ship();
        String name = what + " of a " + kind.name + " ship";
        CHECK.refused(name, want, () -> call.on(ship));
        CHECK.due("everything after " + name, Everything.of(ship), kind.everything);
    }

    private static void refusedEach(Kind kind, Class<?> want, String what, CallOf call, int... arguments) {
        for (int argument : arguments) {
            refused(kind, want, what + "(" + argument + ")", s -> call.on(s, argument));
        }
    }

    private static void promise2AddCompartment() {
        refusedEach(RICH, Check.ARGUMENT, "addCompartment arm", (s, a) -> s.addCompartment(a, 50),
                -10, 10, LEAST, GREATEST);
        refusedEach(RICH, Check.ARGUMENT, "addCompartment capacity", (s, c) -> s.addCompartment(0, c),
                9, 201, 0, -10, LEAST, GREATEST);
        refused(RICH, Check.ARGUMENT, "addCompartment(10, 201)", s -> s.addCompartment(10, 201));
        refused(BARE, Check.ARGUMENT, "addCompartment(-10, 9)", s -> s.addCompartment(-10, 9));
        refused(FULL, Check.STATE, "addCompartment(0, 50)", s -> s.addCompartment(0, 50));
        refusedEach(FULL, Check.ARGUMENT, "addCompartment arm", (s, a) -> s.addCompartment(a, 50), -10, 10);
        refusedEach(FULL, Check.ARGUMENT, "addCompartment capacity", (s, c) -> s.addCompartment(0, c), 9, 201);
    }

    private static void promise3Load() {
        refusedEach(RICH, Check.INDEX, "load compartment", (s, c) -> s.load(c, 1), -1, 3, 8, LEAST, GREATEST);
        refused(BARE, Check.INDEX, "load(0, 1)", s -> s.load(0, 1));
        refusedEach(RICH, Check.ARGUMENT, "load weight", (s, w) -> s.load(2, w), 0, 51, -1, LEAST, GREATEST);
        refused(FULL, Check.STATE, "load of a seventeenth piece", s -> s.load(0, 1));
        refusedEach(HEAVY, Check.STATE, "load of more than 900 tonnes", (s, w) -> s.load(0, w), 1, 50);
        refused(SUNK, Check.STATE, "load", s -> s.load(0, 1));
        refusedEach(RICH, Check.INDEX, "load into 3 of weight", (s, w) -> s.load(3, w), 0, 51);
        refused(FULL, Check.INDEX, "load(8, 1)", s -> s.load(8, 1));
        refused(FULL, Check.INDEX, "load(8, 0)", s -> s.load(8, 0));
        refused(HEAVY, Check.INDEX, "load(-1, 1)", s -> s.load(-1, 1));
        refusedEach(FULL, Check.ARGUMENT, "load weight", (s, w) -> s.load(0, w), 0, 51);
        refusedEach(HEAVY, Check.ARGUMENT, "load weight", (s, w) -> s.load(0, w), 0, 51);
    }

    private static void promise4Unload() {
        refusedEach(RICH, Check.ELEMENT, "unload", (s, id) -> s.unload(id), 1, 3, -1, LEAST, GREATEST);
        refused(BARE, Check.ELEMENT, "unload(0)", s -> s.unload(0));
        refused(FULL, Check.ELEMENT, "unload(16)", s -> s.unload(16));
    }

    private static void promise5Shift() {
        refusedEach(RICH, Check.ELEMENT, "shift piece", (s, id) -> s.shift(id, 2), 1, 3, -1, LEAST, GREATEST);
        refusedEach(RICH, Check.INDEX, "shift compartment", (s, c) -> s.shift(0, c), 3, -1, 8, LEAST, GREATEST);
        refused(RICH, Check.STATE, "shift(0, 0)", s -> s.shift(0, 0));
        refused(RICH, Check.STATE, "shift(2, 1)", s -> s.shift(2, 1));
        refused(FULL, Check.STATE, "shift(15, 7)", s -> s.shift(15, 7));
        refusedEach(RICH, Check.ELEMENT, "shift of no piece to", (s, c) -> s.shift(1, c), 3, -1);
        refused(BARE, Check.ELEMENT, "shift(0, 0)", s -> s.shift(0, 0));
    }

    private static void promises6And7Rates() {
        refusedEach(RICH, Check.INDEX, "setLeak compartment", (s, c) -> s.setLeak(c, 1), -1, 3, LEAST, GREATEST);
        refusedEach(RICH, Check.INDEX, "setPump compartment", (s, c) -> s.setPump(c, 1), -1, 3, LEAST, GREATEST);
        refusedEach(RICH, Check.ARGUMENT, "setLeak rate", (s, r) -> s.setLeak(2, r), -1, 21, LEAST, GREATEST);
        refusedEach(RICH, Check.ARGUMENT, "setPump rate", (s, r) -> s.setPump(2, r), -1, 21, LEAST, GREATEST);
        refusedEach(RICH, Check.INDEX, "setLeak of no compartment", (s, r) -> s.setLeak(3, r), -1, 21);
        refusedEach(RICH, Check.INDEX, "setPump of no compartment", (s, r) -> s.setPump(3, r), -1, 21);
        refused(BARE, Check.INDEX, "setLeak(0, 0)", s -> s.setLeak(0, 0));
        refused(BARE, Check.INDEX, "setPump(0, 0)", s -> s.setPump(0, 0));
        refused(FULL, Check.INDEX, "setLeak(8, 0)", s -> s.setLeak(8, 0));
        refused(FULL, Check.INDEX, "setPump(8, 0)", s -> s.setPump(8, 0));
    }

    private static void promise8TransferOfWrongArguments() {
        refusedEach(RICH, Check.INDEX, "transfer source", (s, c) -> s.transfer(c, 0, 1), -1, 3, LEAST, GREATEST);
        refusedEach(RICH, Check.INDEX, "transfer target", (s, c) -> s.transfer(1, c, 1), -1, 3, LEAST, GREATEST);
        refusedEach(RICH, Check.ARGUMENT, "transfer amount", (s, a) -> s.transfer(1, 0, a),
                0, -1, 201, LEAST, GREATEST);
        refusedEach(RICH, Check.INDEX, "transfer from 3 of amount", (s, a) -> s.transfer(3, 0, a), 0, 201, 200);
        refusedEach(RICH, Check.INDEX, "transfer to 3 of amount", (s, a) -> s.transfer(0, 3, a), 0, 201, 200);
        refused(RICH, Check.INDEX, "transfer(3, 3, 1)", s -> s.transfer(3, 3, 1));
        refused(BARE, Check.INDEX, "transfer(0, 0, 0)", s -> s.transfer(0, 0, 0));
        refused(FULL, Check.INDEX, "transfer(0, 8, 1)", s -> s.transfer(0, 8, 1));
    }

    private static void promise8TransferThatIsNotPossible() {
        refused(RICH, Check.STATE, "transfer to the source itself", s -> s.transfer(1, 1, 1));
        refused(RICH, Check.STATE, "transfer of 1 tonne too much", s -> s.transfer(1, 0, 50));
        refused(RICH, Check.STATE, "transfer from an empty one", s -> s.transfer(0, 1, 1));
        refused(RICH, Check.STATE, "transfer to a full one", s -> s.transfer(1, 2, 1));
        refused(RICH, Check.STATE, "transfer(1, 0, 200)", s -> s.transfer(1, 0, 200));
        refusedEach(RICH, Check.ARGUMENT, "transfer to itself of amount", (s, a) -> s.transfer(1, 1, a), 0, 201);
        refusedEach(RICH, Check.ARGUMENT, "transfer from a dry one of amount", (s, a) -> s.transfer(0, 1, a), 0, 201);
        refusedEach(RICH, Check.ARGUMENT, "transfer to a full one of amount", (s, a) -> s.transfer(1, 2, a), 0, 201);
    }

    private static void promise9Balance() {
        refusedEach(RICH, Check.ARGUMENT, "balance", (s, a) -> s.balance(a), 0, -1, 201, LEAST, GREATEST);
        refusedEach(BARE, Check.ARGUMENT, "balance", (s, a) -> s.balance(a), 0, 201);
        refusedEach(BARE, Check.STATE, "balance", (s, a) -> s.balance(a), 1, 200);
        refusedEach(RICH, Check.STATE, "balance without such a transfer", (s, a) -> s.balance(a), 50, 200);
        refused(FULL, Check.STATE, "balance(1) of full compartments", s -> s.balance(1));
        Kind even = new Kind("balanced", () -> {
            BallastControl ship = Check.shipWithArms(0, 3);
            Check.fill(ship, 0, 10);
            return ship;
        });
        refused(even, Check.STATE, "balance that makes the moment greater", s -> s.balance(1));
        Kind level = new Kind("level", () -> {
            BallastControl ship = Check.shipWithArms(3, 3);
            Check.fill(ship, 0, 10);
            return ship;
        });
        refused(level, Check.STATE, "balance that leaves the moment", s -> s.balance(1));
    }

    private static void promises10And11Settings() {
        refusedEach(RICH, Check.ARGUMENT, "setPower", (s, p) -> s.setPower(p), -1, 9, LEAST, GREATEST);
        refusedEach(RICH, Check.ARGUMENT, "setLimit", (s, l) -> s.setLimit(l), 0, 10, -5, LEAST, GREATEST);
    }

    private static void promise12Schedule() {
        refusedEach(RICH, Check.ARGUMENT, "schedule minute", (s, m) -> s.schedule(m, 1),
                7, 6, 0, -1, 7 + 1000, LEAST, GREATEST);
        refusedEach(BARE, Check.ARGUMENT, "schedule minute", (s, m) -> s.schedule(m, 1), 0, -1, 1000, LEAST, GREATEST);
        refusedEach(RICH, Check.ARGUMENT, "schedule strength", (s, t) -> s.schedule(8, t), 0, 10, -1, LEAST, GREATEST);
        refusedEach(RICH, Check.STATE, "schedule of a taken minute", (s, m) -> s.schedule(m, 1), 12, 16);
        refused(FULL, Check.STATE, "schedule of a seventh storm", s -> s.schedule(13, 1));
        refused(FULL, Check.STATE, "schedule of a taken minute", s -> s.schedule(12, 1));
        refusedEach(RICH, Check.ARGUMENT, "schedule of a taken minute, strength", (s, t) -> s.schedule(12, t), 0, 10);
        refusedEach(FULL, Check.ARGUMENT, "schedule of a seventh, strength", (s, t) -> s.schedule(13, t), 0, 10);
        refusedEach(FULL, Check.ARGUMENT, "schedule of a seventh, minute", (s, m) -> s.schedule(m, 1), 6, 6 + 1000);
    }

    private static void promises13And48StormOfAMinute() {
        int[] without = {7, 5, 8, 11, 13, 15, 17, 0, -12, LEAST, GREATEST};
        refusedEach(RICH, Check.ELEMENT, "cancelStorm", (s, m) -> s.cancelStorm(m), without);
        refusedEach(RICH, Check.ELEMENT, "strengthAt", (s, m) -> s.strengthAt(m), without);
        refusedEach(BARE, Check.ELEMENT, "cancelStorm", (s, m) -> s.cancelStorm(m), 0, 1);
        refusedEach(BARE, Check.ELEMENT, "strengthAt", (s, m) -> s.strengthAt(m), 0, 1);
        refusedEach(FULL, Check.ELEMENT, "cancelStorm", (s, m) -> s.cancelStorm(m), 6, 13);
        refusedEach(FULL, Check.ELEMENT, "strengthAt", (s, m) -> s.strengthAt(m), 6, 13);
    }

    private static void promise14Pass() {
        refusedEach(RICH, Check.ARGUMENT, "pass", (s, m) -> s.pass(m), 0, -1, 121, LEAST, GREATEST);
        refusedEach(SUNK, Check.STATE, "pass", (s, m) -> s.pass(m), 1, 120);
        refusedEach(SUNK, Check.ARGUMENT, "pass", (s, m) -> s.pass(m), 0, 121);
    }

    private static void promises17To22And54And55Compartments() {
        CallOf[] questions = {
            (s, c) -> s.arm(c), (s, c) -> s.capacity(c), (s, c) -> s.water(c), (s, c) -> s.leak(c),
            (s, c) -> s.loadOf(c), (s, c) -> s.wouldPump(c), (s, c) -> s.minutesUntilFull(c),
            (s, c) -> s.formatCompartment(c), (s, c) -> s.formatCargo(c)};
        for (int i = 0; i < questions.length; i++) {
            refusedEach(RICH, Check.INDEX, "question " + i, questions[i], -1, 3, 8, LEAST, GREATEST);
            refusedEach(BARE, Check.INDEX, "question " + i, questions[i], 0, -1);
            refusedEach(FULL, Check.INDEX, "question " + i, questions[i], -1, 8);
        }
    }

    private static void promise24MinutesUntilFull() {
        refused(RICH, Check.ELEMENT, "minutesUntilFull(0) without a leak", s -> s.minutesUntilFull(0));
    }

    private static void promises23And45And49Ranks() {
        refusedEach(RICH, Check.ELEMENT, "pumpAt", (s, r) -> s.pumpAt(r), 1, 2, -1, LEAST, GREATEST);
        refusedEach(FULL, Check.ELEMENT, "pumpAt", (s, r) -> s.pumpAt(r), 8, -1);
        refusedEach(BARE, Check.ELEMENT, "pumpAt", (s, r) -> s.pumpAt(r), 0, -1);
        refusedEach(RICH, Check.ELEMENT, "compartmentByLoad", (s, r) -> s.compartmentByLoad(r), 3, -1, LEAST, GREATEST);
        refusedEach(FULL, Check.ELEMENT, "compartmentByLoad", (s, r) -> s.compartmentByLoad(r), 8, -1);
        refusedEach(BARE, Check.ELEMENT, "compartmentByLoad", (s, r) -> s.compartmentByLoad(r), 0, -1);
        refusedEach(RICH, Check.ELEMENT, "loggedMinute", (s, p) -> s.loggedMinute(p), 1, 5, -1, LEAST, GREATEST);
        refusedEach(FULL, Check.ELEMENT, "loggedMinute", (s, p) -> s.loggedMinute(p), 6, -1);
        refusedEach(BARE, Check.ELEMENT, "loggedMinute", (s, p) -> s.loggedMinute(p), 0, -1);
    }

    private static void promises26To29Pieces() {
        refusedEach(RICH, Check.INDEX, "idAt", (s, p) -> s.idAt(p), 2, -1, 15, LEAST, GREATEST);
        refusedEach(FULL, Check.INDEX, "idAt", (s, p) -> s.idAt(p), 16, -1);
        refusedEach(BARE, Check.INDEX, "idAt", (s, p) -> s.idAt(p), 0, -1);
        refusedEach(RICH, Check.ELEMENT, "weightOf", (s, id) -> s.weightOf(id), 1, 3, -1, LEAST, GREATEST);
        refusedEach(RICH, Check.ELEMENT, "compartmentOf", (s, id) -> s.compartmentOf(id), 1, 3, -1, LEAST, GREATEST);
        refusedEach(FULL, Check.ELEMENT, "weightOf", (s, id) -> s.weightOf(id), 16, -1);
        refusedEach(FULL, Check.ELEMENT, "compartmentOf", (s, id) -> s.compartmentOf(id), 16, -1);
        refusedEach(BARE, Check.ELEMENT, "weightOf", (s, id) -> s.weightOf(id), 0);
        refusedEach(BARE, Check.ELEMENT, "compartmentOf", (s, id) -> s.compartmentOf(id), 0);
        refused(BARE, Check.ELEMENT, "heaviestPiece", s -> s.heaviestPiece());
    }

    private static void promises37To39BestTransfer() {
        CallOf[] questions = {(s, a) -> s.bestSource(a), (s, a) -> s.bestTarget(a), (s, a) -> s.bestMoment(a)};
        for (int i = 0; i < questions.length; i++) {
            String name = "best transfer " + i;
            refusedEach(RICH, Check.ARGUMENT, name, questions[i], 0, -1, 201, LEAST, GREATEST);
            refusedEach(BARE, Check.ARGUMENT, name, questions[i], 0, 201);
            refusedEach(BARE, Check.ELEMENT, name, questions[i], 1, 200);
            refusedEach(RICH, Check.ELEMENT, name, questions[i], 50, 200);
            refusedEach(FULL, Check.ELEMENT, name, questions[i], 1, 10);
        }
    }

    private static void promise40TransfersToBalance() {
        refusedEach(RICH, Check.ARGUMENT, "transfersToBalance", (s, a) -> s.transfersToBalance(a),
                0, -1, 201, LEAST, GREATEST);
        refusedEach(BARE, Check.ARGUMENT, "transfersToBalance", (s, a) -> s.transfersToBalance(a), 0, 201);
        Kind leaning = new Kind("leaning", () -> {
            BallastControl ship = new BallastControl();
            ship.addCompartment(9, 200);
            ship.addCompartment(9, 50);
            Check.fill(ship, 0, 200);
            return ship;
        });
        refused(leaning, Check.ELEMENT, "transfersToBalance(50), without effect", s -> s.transfersToBalance(50));
        refused(leaning, Check.ELEMENT, "transfersToBalance(51), not possible", s -> s.transfersToBalance(51));
    }

    private static void promises41And42BestShift() {
        refused(BARE, Check.ELEMENT, "bestShiftPiece", s -> s.bestShiftPiece());
        refused(BARE, Check.ELEMENT, "bestShiftCompartment", s -> s.bestShiftCompartment());
        Kind alone = new Kind("one-compartment", () -> {
            BallastControl ship = Check.shipWithArms(1);
            ship.load(0, 10);
            return ship;
        });
        refused(alone, Check.ELEMENT, "bestShiftPiece", s -> s.bestShiftPiece());
        refused(alone, Check.ELEMENT, "bestShiftCompartment", s -> s.bestShiftCompartment());
        Kind unladen = new Kind("unladen", () -> Check.shipWithArms(1, 2));
        refused(unladen, Check.ELEMENT, "bestShiftPiece", s -> s.bestShiftPiece());
        refused(unladen, Check.ELEMENT, "bestShiftCompartment", s -> s.bestShiftCompartment());
        refused(unladen, Check.ELEMENT, "heaviestPiece", s -> s.heaviestPiece());
    }

    private static void promises43And44Minutes() {
        refusedEach(RICH, Check.ARGUMENT, "momentAfter", (s, m) -> s.momentAfter(m), -1, 121, LEAST, GREATEST);
        refusedEach(SUNK, Check.ARGUMENT, "momentAfter", (s, m) -> s.momentAfter(m), -1, 121);
        refused(BARE, Check.ELEMENT, "minutesUntilSunk", s -> s.minutesUntilSunk());
        refused(RICH, Check.ELEMENT, "minutesUntilSunk", s -> s.minutesUntilSunk());
    }

    private static void promise47NextStorm() {
        refused(BARE, Check.ELEMENT, "nextStorm", s -> s.nextStorm());
        refused(SUNK, Check.ELEMENT, "nextStorm", s -> s.nextStorm());
    }

    private static void promises51And52Means() {
        refused(BARE, Check.ARITHMETIC, "meanWater", s -> s.meanWater());
        refused(BARE, Check.ARITHMETIC, "fillShare", s -> s.fillShare());
    }

    private static void promise57LineChar() {
        int length = "2*30".length();
        refusedEach(RICH, Check.INDEX, "lineChar", (s, i) -> s.lineChar(i), length, -1, LEAST, GREATEST);
        refusedEach(BARE, Check.INDEX, "lineChar", (s, i) -> s.lineChar(i), 0, -1, 1);
    }

    private static void promise58Append() {
        int[] wrong = {' ' - 1, '~' + 1, 0, 10, 160, 255, 256 + ' ', 65535};
        refusedEach(RICH, Check.ARGUMENT, "append", (s, c) -> s.append((char) c), wrong);
        refusedEach(FULL, Check.ARGUMENT, "append", (s, c) -> s.append((char) c), wrong);
        refusedEach(FULL, Check.STATE, "append", (s, c) -> s.append((char) c), ' ', '~', 'r');
    }

    private static void promises60And61Positions() {
        refused(BARE, Check.ELEMENT, "errorPosition", s -> s.errorPosition());
        refused(BARE, Check.ELEMENT, "failedCommand", s -> s.failedCommand());
        refused(FULL, Check.ELEMENT, "errorPosition", s -> s.errorPosition());
        refused(FULL, Check.ELEMENT, "failedCommand", s -> s.failedCommand());
    }

    private static void promises63And65UndoAndRestore() {
        refused(BARE, Check.STATE, "undo", s -> s.undo());
        refused(BARE, Check.STATE, "restore", s -> s.restore());
        refused(FULL, Check.STATE, "restore", s -> s.restore());
        Kind restored = new Kind("restored", () -> {
            BallastControl ship = Ships.rich();
            ship.restore();
            return ship;
        });
        refused(restored, Check.STATE, "undo", s -> s.undo());
    }

    /** What is no change, and no formatting, leaves everything unchanged when it returns normally, too. */
    private static void questionsLeaveEverything() {
        Call[] questions = {
            s -> s.minute(), s -> s.compartmentCount(), s -> s.arm(1), s -> s.capacity(1), s -> s.water(1),
            s -> s.leak(1), s -> s.loadOf(1), s -> s.wouldPump(1), s -> s.pumpAt(0), s -> s.minutesUntilFull(1),
            s -> s.pieceCount(), s -> s.idAt(1), s -> s.weightOf(2), s -> s.compartmentOf(2), s -> s.heaviestPiece(),
            s -> s.weight(), s -> s.weightByParts(), s -> s.moment(), s -> s.momentByParts(), s -> s.trim(),
            s -> s.isBalanced(), s -> s.isAfloat(), s -> s.bestSource(5), s -> s.bestTarget(5), s -> s.bestMoment(5),
            s -> s.transfersToBalance(5), s -> s.bestShiftPiece(), s -> s.bestShiftCompartment(),
            s -> s.momentAfter(120), s -> s.compartmentByLoad(0), s -> s.stormCount(), s -> s.nextStorm(),
            s -> s.strengthAt(12), s -> s.loggedMinute(0), s -> s.pumpedTotal(), s -> s.meanWater(),
            s -> s.fillShare(), s -> s.isConsistent(), s -> s.lineChar(0), s -> s.errorPosition(),
            s -> s.failedCommand(), s -> s.undoableCount()};
        for (int i = 0; i < questions.length; i++) {
            BallastControl ship = Ships.rich();
            CHECK.due("question " + i + " is answered", questions[i].on(ship) != null, true);
            CHECK.due("everything after question " + i, Everything.of(ship), RICH.everything);
        }
        BallastControl sunk = Ships.sunk();
        CHECK.due("minutesUntilSunk", sunk.minutesUntilSunk(), 0);
        CHECK.due("everything after minutesUntilSunk", Everything.of(sunk), SUNK.everything);
    }
}
