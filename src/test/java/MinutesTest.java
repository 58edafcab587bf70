/** Promises 12 to 14, 36, 43, 44 and 46 to 50: minutes, storms, pumps at work, and sinking. */
public final class MinutesTest {
    private static final Check CHECK = new Check("MinutesTest");

    public static void main(String[] args) {
        promise12Schedule();
        promise13CancelStorm();
        promise14Pass();
        promise14StormBeforeLeak();
        promise14StormHitsTheGreatestLoad();
        promise14PumpsAreChosenBeforeAnyRuns();
        promises14And36Sinking();
        promise43MomentAfter();
        promise44MinutesUntilSunk();
        promises46To48Storms();
        promise49LoggedMinute();
        promise50PumpedTotal();
        CHECK.end();
    }

    private static void promise12Schedule() {
        BallastControl ship = new BallastControl();
        CHECK.due("schedule(999, 9)", ship.schedule(999, 9), 1);
        CHECK.refused("schedule(1000, 9)", Check.ARGUMENT, () -> ship.schedule(1000, 9));
        CHECK.refused("schedule(0, 1)", Check.ARGUMENT, () -> ship.schedule(0, 1));
        CHECK.refused("schedule(-1, 1)", Check.ARGUMENT, () -> ship.schedule(-1, 1));
        CHECK.refused("schedule(1, 0)", Check.ARGUMENT, () -> ship.schedule(1, 0));
        CHECK.refused("schedule(1, 10)", Check.ARGUMENT, () -> ship.schedule(1, 10));
        CHECK.refused("schedule(999, 10)", Check.ARGUMENT, () -> ship.schedule(999, 10));
        CHECK.refused("schedule(999, 1)", Check.STATE, () -> ship.schedule(999, 1));
        CHECK.refused("schedule(least, 1)", Check.ARGUMENT, () -> ship.schedule(Integer.MIN_VALUE, 1));
        CHECK.refused("schedule(greatest, 1)", Check.ARGUMENT, () -> ship.schedule(Integer.MAX_VALUE, 1));
        ship.pass(5);
        CHECK.refused("the least after 5 minutes", Check.ARGUMENT, () -> ship.schedule(Integer.MIN_VALUE, 1));
        CHECK.refused("schedule(5, 1)", Check.ARGUMENT, () -> ship.schedule(5, 1));
        CHECK.due("schedule(1004, 1)", ship.schedule(1004, 1), 2);
        CHECK.refused("schedule(1005, 1)", Check.ARGUMENT, () -> ship.schedule(1005, 1));
        CHECK.due("schedule(6, 1)", ship.schedule(6, 1), 3);
        CHECK.due("schedule(8, 1)", ship.schedule(8, 1), 4);
        CHECK.due("schedule(7, 1)", ship.schedule(7, 1), 5);
        CHECK.due("schedule(9, 1)", ship.schedule(9, 1), 6);
        CHECK.refused("a seventh storm", Check.STATE, () -> ship.schedule(10, 1));
        CHECK.refused("a seventh storm of a wrong strength", Check.ARGUMENT, () -> ship.schedule(10, 0));
        CHECK.due("stormCount", ship.stormCount(), 6);
        ship.pass(1);
        CHECK.due("after one has struck", ship.schedule(10, 1), 6);
    }

    private static void promise13CancelStorm() {
        BallastControl ship = new BallastControl();
        ship.schedule(7, 3);
        ship.schedule(5, 2);
        ship.schedule(9, 4);
        CHECK.refused("no storm", Check.ELEMENT, () -> ship.cancelStorm(6));
        CHECK.due("cancelStorm(5)", ship.cancelStorm(5), 2);
        CHECK.refused("no storm any more", Check.ELEMENT, () -> ship.cancelStorm(5));
        CHECK.due("stormCount", ship.stormCount(), 2);
        CHECK.due("the others stay", ship.strengthAt(7) * 10 + ship.strengthAt(9), 34);
        CHECK.due("cancelStorm(9)", ship.cancelStorm(9), 4);
        CHECK.due("nextStorm", ship.nextStorm(), 7);
        ship.pass(8);
        CHECK.refused("a storm that has struck", Check.ELEMENT, () -> ship.cancelStorm(7));
        CHECK.due("the log", ship.loggedMinute(0), 7);
        CHECK.refused("a cancelled storm does not strike", Check.ELEMENT, () -> ship.loggedMinute(1));
    }

    private static void promise14Pass() {
        BallastControl ship = Check.shipWithArms(1, 2);
        CHECK.refused("pass(0)", Check.ARGUMENT, () -> ship.pass(0));
        CHECK.refused("pass(121)", Check.ARGUMENT, () -> ship.pass(121));
        CHECK.refused("pass(-1)", Check.ARGUMENT, () -> ship.pass(-1));
        CHECK.due("pass(120)", ship.pass(120), 120);
        ship.setLeak(0, 7);
        ship.setPump(0, 3);
        CHECK.due("pass(1)", ship.pass(1), 1);
        CHECK.due("the leak, then the pump", ship.water(0), 4);
        ship.setPump(0, 20);
        ship.pass(1);
        CHECK.due("not below 0", ship.water(0), 0);
        CHECK.due("the other stays dry", ship.water(1), 0);
        ship.setPump(0, 0);
        ship.pass(120);
        CHECK.due("not above the capacity", ship.water(0), 100);
        ship.setPump(0, 2);
        ship.pass(1);
        CHECK.due("the capacity, then the pump", ship.water(0), 98);
    }

    private static void promise14StormBeforeLeak() {
        BallastControl ship = Check.shipWithArms(1);
        ship.setPower(0);
        ship.schedule(2, 6);
        ship.pass(1);
        CHECK.due("before the storm", ship.water(0), 0);
        ship.pass(1);
        CHECK.due("in the minute of the storm", ship.water(0), 6);
        ship.setLeak(0, 15);
        ship.schedule(3, 9);
        ship.pass(1);
        CHECK.due("the leak is not above 20", ship.leak(0), 20);
        CHECK.due("water", ship.water(0), 26);
    }

    private static void promise14StormHitsTheGreatestLoad() {
        BallastControl ship = Check.shipWithArms(1, 2, 3);
        ship.load(1, 10);
        Check.fill(ship, 2, 10);
        int now = ship.minute();
        ship.setPower(0);
        ship.schedule(now + 1, 4);
        ship.pass(1);
        CHECK.due("the lowest of several", ship.leak(1), 4);
        CHECK.due("not the highest", ship.leak(2), 0);
        ship.load(2, 5);
        ship.schedule(now + 2, 1);
        ship.pass(1);
        CHECK.due("water and cargo together", ship.leak(2), 1);
        CHECK.due("only one is hit", ship.leak(1), 4);
        BallastControl bare = new BallastControl();
        bare.schedule(1, 9);
        CHECK.due("a storm without compartments", bare.pass(1), 1);
        CHECK.due("is in the log", bare.loggedMinute(0), 1);
        bare.addCompartment(0, 50);
        CHECK.due("and hits nothing later", bare.leak(0), 0);
    }

    private static void promise14PumpsAreChosenBeforeAnyRuns() {
        BallastControl ship = Check.shipWithArms(1, 2, 3);
        Check.fill(ship, 0, 21);
        Check.fill(ship, 1, 20);
        Check.fill(ship, 2, 22);
        ship.setPump(0, 20);
        ship.setPump(2, 20);
        ship.pass(1);
        CHECK.due("water of 0", ship.water(0), 1);
        CHECK.due("water of 1", ship.water(1), 20);
        CHECK.due("water of 2", ship.water(2), 2);
    }

    /** Five compartments that leak 100 tonnes per minute in all, and no power. */
    private static BallastControl sinkingShip() {
        BallastControl ship = new BallastControl();
        for (int i = 0; i < 5; i++) {
            ship.addCompartment(i - 1, 200);
            ship.setLeak(i, 20);
        }
        ship.setPower(0);
        return ship;
    }

    private static void promises14And36Sinking() {
        BallastControl ship = sinkingShip();
        CHECK.due("pass(9)", ship.pass(9), 9);
        CHECK.due("weight 900", ship.weight(), 900);
        CHECK.due("afloat with 900", ship.isAfloat(), true);
        ship.setLeak(0, 0);
        ship.setLeak(1, 0);
        ship.setLeak(2, 0);
        ship.setLeak(3, 0);
        ship.setLeak(4, 1);
        CHECK.due("sinks in the first of 120 minutes", ship.pass(120), 1);
        CHECK.due("weight 901", ship.weight(), 901);
        CHECK.due("not afloat with 901", ship.isAfloat(), false);
        CHECK.due("minute", ship.minute(), 10);
        CHECK.refused("pass(1) when sunk", Check.STATE, () -> ship.pass(1));
        CHECK.refused("pass(0) when sunk", Check.ARGUMENT, () -> ship.pass(0));
        CHECK.refused("load when sunk", Check.STATE, () -> ship.load(0, 1));
        CHECK.due("a transfer when sunk", ship.transfer(1, 0, 20) != 0, true);
        CHECK.due("minutesUntilSunk", ship.minutesUntilSunk(), 0);
        CHECK.due("momentAfter", ship.momentAfter(120), ship.moment());
        BallastControl light = sinkingShip();
        light.load(0, 50);
        light.pass(9);
        CHECK.due("sunk by cargo and water", light.isAfloat(), false);
        light.unload(0);
        CHECK.due("900 again", light.weight(), 900);
        CHECK.due("stays sunk", light.isAfloat(), false);
        CHECK.refused("pass stays refused", Check.STATE, () -> light.pass(1));
        light.undo();
        light.undo();
        CHECK.due("undo brings it back", light.isAfloat(), true);
        CHECK.due("and the minutes", light.minute(), 0);
    }

    private static void promise43MomentAfter() {
        BallastControl ship = Check.shipWithArms(-2, 3);
        ship.setPower(0);
        ship.setLeak(1, 10);
        ship.schedule(2, 5);
        CHECK.due("momentAfter(0)", ship.momentAfter(0), 0);
        CHECK.due("momentAfter(1)", ship.momentAfter(1), 30);
        CHECK.due("momentAfter(2)", ship.momentAfter(2), 75);
        CHECK.due("momentAfter(120)", ship.momentAfter(120), 300);
        CHECK.refused("momentAfter(-1)", Check.ARGUMENT, () -> ship.momentAfter(-1));
        CHECK.refused("momentAfter(121)", Check.ARGUMENT, () -> ship.momentAfter(121));
        CHECK.due("nothing has passed", ship.minute() + ship.water(1) + ship.moment(), 0);
        CHECK.due("no storm has struck", ship.stormCount(), 1);
        BallastControl sinking = sinkingShip();
        CHECK.due("moment when it sinks", sinking.momentAfter(120), 200 * (-1 + 0 + 1 + 2 + 3));
        sinking.load(4, 50);
        CHECK.due("moment when it sinks before", sinking.momentAfter(120), 180 * 5 + 150);
        sinking.pass(120);
        CHECK.due("moment when it has sunk", sinking.momentAfter(3), sinking.moment());
        CHECK.refused("a wrong number when it has sunk", Check.ARGUMENT, () -> sinking.momentAfter(121));
    }

    private static void promise44MinutesUntilSunk() {
        BallastControl ship = sinkingShip();
        CHECK.due("minutesUntilSunk", ship.minutesUntilSunk(), 10);
        CHECK.due("nothing has passed", ship.minute(), 0);
        ship.pass(3);
        CHECK.due("minutesUntilSunk then", ship.minutesUntilSunk(), 7);
        ship.setPower(8);
        for (int i = 0; i < 5; i++) {
            ship.setPump(i, 20);
        }
        CHECK.refused("the pumps hold", Check.ELEMENT, () -> ship.minutesUntilSunk());
        CHECK.refused("an empty ship", Check.ELEMENT, () -> new BallastControl().minutesUntilSunk());
        BallastControl slow = new BallastControl();
        for (int i = 0; i < 8; i++) {
            slow.addCompartment(0, 200);
        }
        slow.setPower(0);
        Check.fill(slow, 0, 200);
        Check.fill(slow, 1, 200);
        Check.fill(slow, 2, 200);
        Check.fill(slow, 3, 180);
        slow.setLeak(4, 1);
        slow.pass(1);
        CHECK.due("in 120 minutes", slow.minutesUntilSunk(), 120);
        slow.undo();
        CHECK.refused("in 121 minutes", Check.ELEMENT, () -> slow.minutesUntilSunk());
    }

    private static void promises46To48Storms() {
        BallastControl ship = new BallastControl();
        CHECK.due("stormCount at first", ship.stormCount(), 0);
        CHECK.refused("nextStorm at first", Check.ELEMENT, () -> ship.nextStorm());
        ship.schedule(30, 3);
        ship.schedule(10, 1);
        ship.schedule(20, 2);
        CHECK.due("stormCount", ship.stormCount(), 3);
        CHECK.due("nextStorm", ship.nextStorm(), 10);
        CHECK.due("strengthAt(30)", ship.strengthAt(30), 3);
        CHECK.due("strengthAt(10)", ship.strengthAt(10), 1);
        CHECK.due("strengthAt(20)", ship.strengthAt(20), 2);
        for (int wrong : new int[] {0, -10, 11, Integer.MAX_VALUE, Integer.MIN_VALUE}) {
            CHECK.refused("strengthAt(" + wrong + ")", Check.ELEMENT, () -> ship.strengthAt(wrong));
        }
        ship.pass(10);
        CHECK.due("stormCount then", ship.stormCount(), 2);
        CHECK.due("nextStorm then", ship.nextStorm(), 20);
        CHECK.refused("strengthAt(10) then", Check.ELEMENT, () -> ship.strengthAt(10));
    }

    private static void promise49LoggedMinute() {
        BallastControl ship = new BallastControl();
        CHECK.refused("loggedMinute(0) at first", Check.ELEMENT, () -> ship.loggedMinute(0));
        for (int i = 1; i <= 6; i++) {
            ship.schedule(i * 2, i);
        }
        ship.pass(5);
        CHECK.due("the latest first", ship.loggedMinute(0), 4);
        CHECK.due("then the one before", ship.loggedMinute(1), 2);
        CHECK.refused("no third", Check.ELEMENT, () -> ship.loggedMinute(2));
        CHECK.refused("no negative position", Check.ELEMENT, () -> ship.loggedMinute(-1));
        ship.schedule(14, 1);
        ship.schedule(16, 1);
        ship.pass(20);
        for (int i = 0; i < 6; i++) {
            CHECK.due("loggedMinute(" + i + ")", ship.loggedMinute(i), 16 - 2 * i);
        }
        CHECK.refused("no seventh", Check.ELEMENT, () -> ship.loggedMinute(6));
    }

    private static void promise50PumpedTotal() {
        BallastControl ship = Check.shipWithArms(1, 2, 3);
        Check.fill(ship, 0, 12);
        Check.fill(ship, 1, 3);
        Check.fill(ship, 2, 1);
        CHECK.due("at first", ship.pumpedTotal(), 0L);
        ship.pass(1);
        CHECK.due("two pumps", ship.pumpedTotal(), 8L);
        ship.pass(1);
        CHECK.due("two more", ship.pumpedTotal(), 14L);
        ship.pass(3);
        CHECK.due("all", ship.pumpedTotal(), 16L);
        Check.fill(ship, 0, 10);
        ship.setPump(1, 0);
        ship.transfer(0, 1, 10);
        ship.pass(1);
        CHECK.due("a transfer is not pumped", ship.pumpedTotal(), 16L);
    }
}
