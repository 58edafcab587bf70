/**
 * The sentences of 'Minutes' and of promises 14, 36, 43, 44 and 50 that name a boundary, each with a test of its own
 * that stands below the sentence. What is refused, and that it changes nothing, is in RefusalTest.
 */
public final class MinutesEdgesTest {
    private static final Check CHECK = new Check("MinutesEdgesTest");

    public static void main(String[] args) {
        counterStartsAtNone();
        fromOneToOneHundredAndTwentyMinutes();
        whileSunkMinutesCannotPass();
        waterUpToTheCapacity();
        leaksBeforePumps();
        pumpsInTheOrderOfTheWaterAfterTheLeaks();
        noPowerForIdlePumps();
        pumpsNotBelowNone();
        whatLeavesCountsAsPumped();
        sinksAboveNineHundred();
        sinksOnlyAtTheEndOfTheMinute();
        passReturnsTheMinutesThatHavePassed();
        staysSunkWhateverHappens();
        onlyUndoAndRestoreBringItBack();
        momentAfterNoneToOneHundredAndTwenty();
        momentWhenItSinksBefore();
        momentWhenItIsSunk();
        sinksWithinOneHundredAndTwentyMinutes();
        minutesUntilSunkOfASunkShip();
        minutesUntilSunkCountOnACopy();
        CHECK.end();
    }

    /** "The minute counter starts at 0." and "First, the counter increases by 1." */
    private static void counterStartsAtNone() {
        BallastControl ship = new BallastControl();
        CHECK.due("at first", ship.minute(), 0);
        ship.pass(1);
        CHECK.due("after a minute", ship.minute(), 1);
        ship.pass(120);
        CHECK.due("after 120 more", ship.minute(), 121);
    }

    /** "minutes: the number of minutes, 1 to 120" of pass. */
    private static void fromOneToOneHundredAndTwentyMinutes() {
        BallastControl ship = Check.shipWithArms(1);
        CHECK.due("the least", ship.pass(1), 1);
        CHECK.due("the greatest", ship.pass(120), 120);
        CHECK.refused("one less", Check.ARGUMENT, () -> ship.pass(0));
        CHECK.refused("one more", Check.ARGUMENT, () -> ship.pass(121));
        CHECK.due("the counter", ship.minute(), 121);
    }

    /** "While the ship is sunk, minutes cannot pass." */
    private static void whileSunkMinutesCannotPass() {
        BallastControl ship = Ships.sunk();
        int minute = ship.minute();
        CHECK.refused("by pass", Check.STATE, () -> ship.pass(1));
        CHECK.refused("by a command", Check.STATE, () -> Check.run(ship, "minutes 1"));
        CHECK.due("the counter", ship.minute(), minute);
        CHECK.due("the water", ship.water(4), 51);
    }

    /** "its water increases by its leak rate, but not above its capacity". */
    private static void waterUpToTheCapacity() {
        BallastControl ship = new BallastControl();
        ship.addCompartment(0, 40);
        ship.addCompartment(0, 41);
        ship.addCompartment(0, 39);
        ship.setPower(0);
        for (int i = 0; i < 3; i++) {
            ship.setLeak(i, 20);
        }
        ship.pass(2);
        CHECK.due("just full", ship.water(0), 40);
        CHECK.due("one tonne is missing", ship.water(1), 40);
        CHECK.due("one tonne did not find room", ship.water(2), 39);
        ship.pass(1);
        CHECK.due("full ones", ship.water(0) + " " + ship.water(1) + " " + ship.water(2), "40 41 39");
    }

    /** "Third, water leaks into every compartment", and fourth the pumps run: a dry compartment is pumped at once. */
    private static void leaksBeforePumps() {
        BallastControl ship = new BallastControl();
        ship.addCompartment(0, 10);
        ship.setLeak(0, 5);
        ship.pass(1);
        CHECK.due("what leaks in is pumped", ship.water(0) + " " + ship.pumpedTotal(), "0 5");
        ship.setLeak(0, 6);
        ship.pass(1);
        CHECK.due("but one tonne", ship.water(0) + " " + ship.pumpedTotal(), "1 10");
        Check.fill(ship, 0, 9);
        ship.setLeak(0, 20);
        ship.pass(1);
        CHECK.due("a full one does not take the leak first", ship.water(0), 5);
    }

    /** "ordered by their water, the greatest amount first, then by their numbers, the lowest first". */
    private static void pumpsInTheOrderOfTheWaterAfterTheLeaks() {
        BallastControl ship = Check.shipWithArms(0, 0, 0);
        Check.fill(ship, 0, 10);
        Check.fill(ship, 1, 8);
        ship.setLeak(1, 3);
        ship.setPower(1);
        CHECK.due("now the first is fuller", ship.wouldPump(0), true);
        ship.pass(1);
        CHECK.due("after the leak the second", ship.water(0) + " " + ship.water(1), "10 6");
        ship.setLeak(1, 4);
        ship.pass(1);
        CHECK.due("as full, the lower number", ship.water(0) + " " + ship.water(1), "5 10");
        ship.setLeak(1, 0);
        Check.fill(ship, 2, 10);
        ship.pass(1);
        CHECK.due("as full, the lower one of the last two", ship.water(1) + " " + ship.water(2), "5 10");
    }

    /** "the compartments with a pump rate greater than 0 and water greater than 0": no other one takes power. */
    private static void noPowerForIdlePumps() {
        BallastControl ship = Check.shipWithArms(0, 0, 0, 0);
        Check.fill(ship, 0, 90);
        Check.fill(ship, 2, 7);
        Check.fill(ship, 3, 6);
        ship.setPump(0, 0);
        ship.pass(1);
        CHECK.due("the one without a pump", ship.water(0), 90);
        CHECK.due("the two that can", ship.water(2) + " " + ship.water(3), "2 1");
        ship.setPump(0, 1);
        ship.pass(1);
        CHECK.due("the least pump takes its power", ship.water(0) + " " + ship.water(2), "89 0");
        CHECK.due("and leaves none for the third", ship.water(3), 1);
    }

    /** "decreases by its pump rate, but not below 0". */
    private static void pumpsNotBelowNone() {
        BallastControl ship = Check.shipWithArms(0, 0, 0);
        ship.setPower(3);
        Check.fill(ship, 0, 5);
        Check.fill(ship, 1, 4);
        Check.fill(ship, 2, 6);
        ship.pass(1);
        CHECK.due("just empty", ship.water(0), 0);
        CHECK.due("one tonne less than the rate", ship.water(1), 0);
        CHECK.due("one tonne more than the rate", ship.water(2), 1);
    }

    /** "the water that leaves it counts as pumped". */
    private static void whatLeavesCountsAsPumped() {
        BallastControl ship = Check.shipWithArms(0, 0, 0);
        CHECK.due("at first", ship.pumpedTotal(), 0L);
        Check.fill(ship, 0, 3);
        ship.pass(1);
        CHECK.due("less than the rate", ship.pumpedTotal(), 3L);
        ship.pass(1);
        CHECK.due("nothing", ship.pumpedTotal(), 3L);
        Check.fill(ship, 1, 5);
        ship.pass(1);
        CHECK.due("the rate", ship.pumpedTotal(), 8L);
        Check.fill(ship, 2, 50);
        ship.transfer(2, 1, 25);
        CHECK.due("a transfer does not count", ship.pumpedTotal(), 8L);
        ship.setPower(0);
        ship.pass(1);
        CHECK.due("without power", ship.pumpedTotal(), 8L);
    }

    /** 900 tonnes: 700 of water, and 200 of cargo in the last compartment. */
    private static BallastControl nineHundred() {
        BallastControl ship = new BallastControl();
        for (int i = 0; i < 5; i++) {
            ship.addCompartment(1, 200);
        }
        for (int i = 0; i < 3; i++) {
            Check.fill(ship, i, 200);
        }
        Check.fill(ship, 3, 100);
        for (int i = 0; i < 4; i++) {
            ship.load(4, 50);
        }
        return ship;
    }

    /** "The ship is afloat while its weight is at most 900" and "Fifth, the ship sinks if its weight is more". */
    private static void sinksAboveNineHundred() {
        BallastControl ship = nineHundred();
        ship.setPower(0);
        CHECK.due("a minute with 900", ship.pass(1), 1);
        CHECK.due("afloat", ship.isAfloat(), true);
        ship.setLeak(4, 1);
        ship.pass(1);
        CHECK.due("the weight", ship.weight(), 901);
        CHECK.due("sunk", ship.isAfloat(), false);
    }

    /** "if it is more at the end of a minute, the ship sinks": what is pumped out in the same minute is gone. */
    private static void sinksOnlyAtTheEndOfTheMinute() {
        BallastControl ship = nineHundred();
        ship.setLeak(3, 10);
        CHECK.due("10 tonnes in, 10 tonnes out", ship.pass(1), 1);
        CHECK.due("the weight", ship.weight(), 900);
        CHECK.due("afloat", ship.isAfloat(), true);
        ship.setLeak(3, 11);
        ship.pass(1);
        CHECK.due("11 tonnes in, 10 tonnes out", ship.isAfloat(), false);
    }

    /** "until all have passed or the ship sinks" and "Returns the number of minutes that have passed." */
    private static void passReturnsTheMinutesThatHavePassed() {
        for (int minutes = 1; minutes <= 5; minutes++) {
            BallastControl ship = nineHundred();
            ship.unload(0);
            ship.setPower(0);
            ship.setLeak(4, 17);
            int before = ship.minute();
            CHECK.due("50 tonnes by 17", ship.pass(minutes), Math.min(minutes, 3));
            CHECK.due("the counter", ship.minute(), before + Math.min(minutes, 3));
            CHECK.due("afloat", ship.isAfloat(), minutes < 3);
        }
    }

    /** "and it stays sunk, whatever happens later". */
    private static void staysSunkWhateverHappens() {
        BallastControl ship = Ships.sunk();
        ship.unload(0);
        CHECK.due("after an unload", ship.isAfloat(), false);
        ship.setLeak(4, 0);
        ship.setPower(8);
        ship.setLimit(9);
        ship.transfer(0, 4, 100);
        CHECK.due("after a transfer", ship.isAfloat(), false);
        CHECK.due("a load is possible", ship.load(2, 1), 1);
        CHECK.due("a storm can be scheduled", ship.schedule(ship.minute() + 1, 1), 1);
        ship.addCompartment(0, 10);
        CHECK.due("after a run", Check.run(ship, "unload 1;leak 0 0") + " " + ship.isAfloat(), "2 false");
        ship.undo();
        CHECK.due("after undo of what came later", ship.isAfloat(), false);
        ship.save();
        ship.restore();
        CHECK.due("after restore of a sunk copy", ship.isAfloat(), false);
        CHECK.refused("minutes", Check.STATE, () -> ship.pass(1));
    }

    /** "only undo and restore bring it back". */
    private static void onlyUndoAndRestoreBringItBack() {
        BallastControl ship = Ships.sunk();
        int minute = ship.minute();
        ship.setLeak(4, 0);
        ship.undo();
        ship.undo();
        CHECK.due("after undo of the minute", ship.isAfloat(), true);
        CHECK.due("the counter", ship.minute(), minute - 1);
        ship.save();
        CHECK.due("it sinks again", ship.pass(3), 1);
        CHECK.due("sunk", ship.isAfloat(), false);
        ship.restore();
        CHECK.due("after restore", ship.isAfloat(), true);
        ship.setLeak(4, 0);
        CHECK.due("minutes pass", ship.pass(120), 120);
        BallastControl other = nineHundred();
        other.setPower(0);
        Check.run(other, "leak 4 1;minutes 1");
        CHECK.due("sunk by a run", other.isAfloat(), false);
        other.undo();
        CHECK.due("after undo of the run", other.isAfloat(), true);
    }

    /** "minutes: the number of minutes, 0 to 120" of momentAfter. */
    private static void momentAfterNoneToOneHundredAndTwenty() {
        BallastControl ship = new BallastControl();
        ship.addCompartment(-9, 200);
        ship.setPower(0);
        ship.setLeak(0, 1);
        CHECK.due("the least", ship.momentAfter(0), 0);
        CHECK.due("the least but one", ship.momentAfter(1), -9);
        CHECK.due("the greatest", ship.momentAfter(120), -9 * 120);
        CHECK.refused("one less", Check.ARGUMENT, () -> ship.momentAfter(-1));
        CHECK.refused("one more", Check.ARGUMENT, () -> ship.momentAfter(121));
        CHECK.due("it is asked of a copy", ship.minute() + ship.water(0), 0);
        CHECK.due("and asked again", ship.momentAfter(120), -9 * 120);
        BallastControl many = Check.shipWithArms(-4, -3, -2, -1, 1, 2, 3, 4);
        many.setPower(0);
        for (int i = 0; i < 8; i++) {
            many.setLeak(i, 1 + i);
        }
        CHECK.due("of eight compartments", many.momentAfter(1), -4 - 6 - 6 - 4 + 5 + 12 + 21 + 32);
        many.undo();
        CHECK.due("of another leak of the last one", many.momentAfter(2), 2 * (-4 - 6 - 6 - 4 + 5 + 12 + 21));
    }

    /** "or when the ship sinks before". */
    private static void momentWhenItSinksBefore() {
        BallastControl ship = nineHundred();
        ship.setPower(0);
        ship.unload(0);
        ship.setLeak(3, 20);
        CHECK.due("before", ship.momentAfter(2), 890);
        CHECK.due("in this minute", ship.momentAfter(3), 910);
        CHECK.due("after it", ship.momentAfter(4), 910);
        CHECK.due("long after it", ship.momentAfter(120), 910);
        CHECK.due("the ship itself", ship.isAfloat(), true);
    }

    /** "If the ship is sunk, this is the present moment." */
    private static void momentWhenItIsSunk() {
        BallastControl ship = Ships.sunk();
        CHECK.due("of none", ship.momentAfter(0), ship.moment());
        CHECK.due("of one", ship.momentAfter(1), ship.moment());
        ship.transfer(0, 4, 50);
        CHECK.due("of 120", ship.momentAfter(120), ship.moment());
        CHECK.refused("of 121", Check.ARGUMENT, () -> ship.momentAfter(121));
    }

    /** "Throws NoSuchElementException if it does not sink within 120 minutes". */
    private static void sinksWithinOneHundredAndTwentyMinutes() {
        BallastControl ship = nineHundred();
        ship.setPower(0);
        ship.setLeak(4, 1);
        CHECK.due("in one minute", ship.minutesUntilSunk(), 1);
        for (int i = 0; i < 3; i++) {
            ship.unload(i);
        }
        CHECK.due("a piece of 31 tonnes", ship.load(4, 31), 4);
        CHECK.due("120 tonnes less", ship.weight(), 781);
        CHECK.due("in 120 minutes", ship.minutesUntilSunk(), 120);
        ship.unload(4);
        ship.load(4, 30);
        CHECK.due("121 tonnes less", ship.weight(), 780);
        CHECK.refused("in 121 minutes", Check.ELEMENT, () -> ship.minutesUntilSunk());
        ship.schedule(ship.minute() + 120, 1);
        CHECK.due("the storm hits the first one", ship.loadOf(0) > ship.loadOf(4), true);
        CHECK.refused("which is full", Check.ELEMENT, () -> ship.minutesUntilSunk());
    }

    /** "Returns the number of minutes, 0 if it is sunk." */
    private static void minutesUntilSunkOfASunkShip() {
        BallastControl ship = Ships.sunk();
        CHECK.due("sunk", ship.minutesUntilSunk(), 0);
        ship.unload(0);
        CHECK.due("sunk and light", ship.minutesUntilSunk(), 0);
        ship.undo();
        ship.undo();
        CHECK.due("brought back", ship.minutesUntilSunk(), 1);
    }

    /** "by letting minutes pass on a copy": with storms and pumps, and without a trace. */
    private static void minutesUntilSunkCountOnACopy() {
        BallastControl ship = nineHundred();
        ship.unload(0);
        ship.setPower(1);
        ship.setPump(0, 0);
        ship.setPump(1, 0);
        ship.setPump(2, 0);
        ship.setLeak(3, 5);
        CHECK.refused("the pump holds the leak", Check.ELEMENT, () -> ship.minutesUntilSunk());
        ship.setLeak(3, 10);
        CHECK.due("5 more each minute", ship.minutesUntilSunk(), 11);
        ship.transfer(0, 4, 150);
        ship.schedule(ship.minute() + 4, 9);
        int minute = ship.minute();
        CHECK.due("the storm hits the heaviest", ship.minutesUntilSunk(), 6);
        CHECK.due("no trace", ship.minute() + " " + ship.stormCount() + " " + ship.leak(4) + " " + ship.weight(),
                minute + " 1 0 850");
        CHECK.due("pass agrees", ship.pass(120), 6);
    }
}
