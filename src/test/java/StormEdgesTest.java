/**
 * The sentences of 'Storms' and of promises 12, 13 and 46 to 49 that name a boundary, each with a test of its own that
 * stands below the sentence. What is refused, and that it changes nothing, is in RefusalTest.
 */
public final class StormEdgesTest {
    private static final Check CHECK = new Check("StormEdgesTest");

    public static void main(String[] args) {
        minutesAfterThePresentOne();
        minutesUpTo999Later();
        strengthsFromOneToNine();
        atMostOneStormForAMinute();
        atMostSixStorms();
        cancelledStormsAreGone();
        strikesInItsMinute();
        strikesBeforeTheLeaks();
        strikesTheGreatestLoad();
        strikesTheLowestOfSeveral();
        leaksNotAboveTwenty();
        nothingHappensWithoutCompartments();
        everyStormIsLogged();
        latestSixInTheLog();
        latestStormComesFirst();
        noStormIsScheduled();
        nextOfSeveral();
        strengthOfAMinute();
        CHECK.end();
    }

    /** "A storm is scheduled for a minute after the present one". */
    private static void minutesAfterThePresentOne() {
        BallastControl ship = new BallastControl();
        CHECK.refused("the present one at first", Check.ARGUMENT, () -> ship.schedule(0, 1));
        CHECK.due("the one after it", ship.schedule(1, 1), 1);
        ship.pass(100);
        CHECK.refused("a past one", Check.ARGUMENT, () -> ship.schedule(99, 1));
        CHECK.refused("the present one", Check.ARGUMENT, () -> ship.schedule(100, 1));
        CHECK.due("the one after it then", ship.schedule(101, 1), 1);
    }

    /** "or is greater by more than 999". */
    private static void minutesUpTo999Later() {
        BallastControl ship = new BallastControl();
        CHECK.due("999 later", ship.schedule(999, 1), 1);
        CHECK.refused("1000 later", Check.ARGUMENT, () -> ship.schedule(1000, 1));
        ship.pass(1);
        CHECK.due("999 later then", ship.schedule(1000, 1), 2);
        CHECK.refused("1000 later then", Check.ARGUMENT, () -> ship.schedule(1001, 1));
        for (int i = 0; i < 9; i++) {
            ship.pass(120);
        }
        CHECK.due("both have struck", ship.stormCount() + " " + ship.loggedMinute(0) + " " + ship.loggedMinute(1),
                "0 1000 999");
        CHECK.due("the greatest of a command", Check.run(new BallastControl(), "storm 999 1"), 1);
    }

    /** "a strength from 1 to 9". */
    private static void strengthsFromOneToNine() {
        BallastControl ship = Check.shipWithArms(1);
        CHECK.due("the least", ship.schedule(1, 1), 1);
        CHECK.due("the greatest", ship.schedule(2, 9), 2);
        CHECK.refused("one less", Check.ARGUMENT, () -> ship.schedule(3, 0));
        CHECK.refused("one more", Check.ARGUMENT, () -> ship.schedule(3, 10));
        ship.pass(1);
        CHECK.due("the leak of the least", ship.leak(0), 1);
        ship.pass(1);
        CHECK.due("the leak of both", ship.leak(0), 10);
    }

    /** "At most one storm is scheduled for a minute". */
    private static void atMostOneStormForAMinute() {
        BallastControl ship = new BallastControl();
        ship.schedule(5, 2);
        ship.schedule(6, 3);
        CHECK.refused("the minute of the first", Check.STATE, () -> ship.schedule(5, 2));
        CHECK.refused("the minute of the last", Check.STATE, () -> ship.schedule(6, 9));
        CHECK.due("the minutes around them", ship.schedule(4, 1) + ship.schedule(7, 1), 3 + 4);
        CHECK.due("the strengths stay", ship.strengthAt(5) * 10 + ship.strengthAt(6), 23);
        ship.cancelStorm(5);
        CHECK.due("the minute of a cancelled one", ship.schedule(5, 4), 4);
    }

    /** "at most 6 storms are scheduled at the same time" and "the number of scheduled storms afterwards". */
    private static void atMostSixStorms() {
        BallastControl ship = new BallastControl();
        for (int i = 1; i <= 6; i++) {
            CHECK.due("one of six", ship.schedule(i * 2, 1), i);
        }
        CHECK.refused("a seventh", Check.STATE, () -> ship.schedule(13, 1));
        CHECK.due("stormCount", ship.stormCount(), 6);
        ship.pass(1);
        CHECK.refused("a seventh before the first has struck", Check.STATE, () -> ship.schedule(13, 1));
        ship.pass(1);
        CHECK.due("a sixth after the first has struck", ship.schedule(13, 1), 6);
        ship.cancelStorm(8);
        CHECK.due("a sixth after one was cancelled", ship.schedule(7, 1), 6);
        CHECK.refused("a seventh then", Check.STATE, () -> ship.schedule(5, 1));
        CHECK.due("the order", Check.line(ship, ship.formatStorms()), "4!1 6!1 7!1 10!1 12!1 13!1");
    }

    /** "Cancels the storm that is scheduled for a minute.": the first, the last and one between them. */
    private static void cancelledStormsAreGone() {
        for (int minute : new int[] {3, 4, 5, 6, 7, 8}) {
            BallastControl ship = new BallastControl();
            for (int i = 1; i <= 6; i++) {
                ship.schedule(2 + i, i);
            }
            CHECK.due("its strength", ship.cancelStorm(minute), minute - 2);
            CHECK.refused("once more", Check.ELEMENT, () -> ship.cancelStorm(minute));
            CHECK.due("stormCount", ship.stormCount(), 5);
            ship.pass(10);
            CHECK.refused("not logged", Check.ELEMENT, () -> ship.loggedMinute(5));
            int sum = 0;
            for (int i = 0; i < 5; i++) {
                sum += ship.loggedMinute(i);
            }
            CHECK.due("the others are logged", sum, 3 + 4 + 5 + 6 + 7 + 8 - minute);
            CHECK.refused("one that has struck", Check.ELEMENT, () -> ship.cancelStorm(minute == 3 ? 4 : 3));
        }
    }

    /** "if a storm is scheduled for this minute, it strikes", and is scheduled no more. */
    private static void strikesInItsMinute() {
        BallastControl ship = Check.shipWithArms(1);
        ship.schedule(3, 4);
        ship.pass(2);
        CHECK.due("before its minute", ship.leak(0) + " " + ship.stormCount(), "0 1");
        ship.pass(1);
        CHECK.due("in its minute", ship.leak(0) + " " + ship.stormCount(), "4 0");
        ship.pass(1);
        CHECK.due("after its minute", ship.leak(0) + " " + ship.stormCount(), "4 0");
        CHECK.refused("its strength", Check.ELEMENT, () -> ship.strengthAt(3));
        ship.undo();
        ship.undo();
        CHECK.due("scheduled again after undo", ship.strengthAt(3), 4);
    }

    /** "Second, if a storm is scheduled", and third the leaks: the load is that before, the leak rate that after it. */
    private static void strikesBeforeTheLeaks() {
        BallastControl ship = Check.shipWithArms(1, 1);
        ship.setPower(0);
        ship.load(0, 5);
        ship.setLeak(1, 20);
        ship.schedule(1, 9);
        ship.pass(1);
        CHECK.due("the first is hit", ship.leak(0), 9);
        CHECK.due("and leaks at once", ship.water(0), 9);
        CHECK.due("the second is not hit", ship.leak(1), 20);
        ship.setLeak(1, 10);
        ship.schedule(2, 9);
        ship.pass(1);
        CHECK.due("the second is hit then", ship.leak(0) + " " + ship.leak(1), "9 19");
    }

    /** "the leak rate of the compartment with the greatest load increases by its strength". */
    private static void strikesTheGreatestLoad() {
        for (int hit = 0; hit < 8; hit++) {
            BallastControl ship = Check.shipWithArms(0, 0, 0, 0, 0, 0, 0, 0);
            ship.load(hit, 2);
            ship.load((hit + 1) % 8, 1);
            ship.schedule(1, 3);
            ship.pass(1);
            for (int i = 0; i < 8; i++) {
                CHECK.due("leak(" + i + ")", ship.leak(i), i == hit ? 3 : 0);
            }
        }
        BallastControl ship = Check.shipWithArms(9, 0);
        Check.fill(ship, 0, 20);
        ship.load(1, 21);
        ship.setPower(0);
        ship.schedule(2, 1);
        ship.pass(1);
        CHECK.due("cargo counts as water does", ship.leak(0) + " " + ship.leak(1), "0 1");
    }

    /** "of several such compartments it is the one with the lowest number". */
    private static void strikesTheLowestOfSeveral() {
        BallastControl empty = Check.shipWithArms(0, 0, 0);
        empty.schedule(1, 2);
        empty.pass(1);
        CHECK.due("of empty ones", empty.leak(0) + " " + empty.leak(1) + " " + empty.leak(2), "2 0 0");
        BallastControl ship = Check.shipWithArms(0, 0, 0, 0);
        ship.load(3, 7);
        ship.load(0, 6);
        ship.load(2, 7);
        ship.schedule(1, 2);
        ship.pass(1);
        CHECK.due("of two", ship.leak(0) + " " + ship.leak(2) + " " + ship.leak(3), "0 2 0");
    }

    /** "increases by its strength, but not above 20". */
    private static void leaksNotAboveTwenty() {
        int[][] rows = {{11, 9, 20}, {12, 9, 20}, {10, 9, 19}, {19, 1, 20}, {19, 2, 20}, {20, 1, 20}, {20, 9, 20}};
        for (int[] row : rows) {
            BallastControl ship = Check.shipWithArms(0);
            ship.setLeak(0, row[0]);
            ship.schedule(1, row[1]);
            ship.pass(1);
            CHECK.due("a leak of " + row[0] + " in a storm of " + row[1], ship.leak(0), row[2]);
        }
    }

    /** "without compartments nothing happens. In any case the storm is entered into the log." */
    private static void nothingHappensWithoutCompartments() {
        BallastControl ship = new BallastControl();
        ship.schedule(2, 9);
        CHECK.due("pass", ship.pass(3), 3);
        CHECK.due("the log", ship.loggedMinute(0), 2);
        CHECK.due("stormCount", ship.stormCount(), 0);
        for (int i = 0; i < 8; i++) {
            ship.addCompartment(0, 50);
            CHECK.due("no leak later", ship.leak(i), 0);
        }
    }

    /** "In any case the storm is entered into the log.": also where a leak of 20 stays. */
    private static void everyStormIsLogged() {
        BallastControl ship = Check.shipWithArms(0);
        ship.setLeak(0, 20);
        ship.schedule(1, 9);
        ship.schedule(2, 9);
        ship.pass(2);
        CHECK.due("the log", ship.loggedMinute(0) + " " + ship.loggedMinute(1), "2 1");
        BallastControl sinking = Ships.sunk();
        sinking.undo();
        sinking.schedule(sinking.minute() + 1, 1);
        sinking.schedule(sinking.minute() + 2, 1);
        sinking.pass(2);
        CHECK.due("the one in the minute it sinks", sinking.loggedMinute(0), sinking.minute());
        CHECK.due("the one after it", sinking.stormCount(), 1);
    }

    /** "The log holds the latest 6 storms that have struck." */
    private static void latestSixInTheLog() {
        BallastControl ship = new BallastControl();
        for (int i = 1; i <= 20; i++) {
            ship.schedule(i * 3, 1);
            ship.pass(3);
            int logged = Math.min(i, 6);
            CHECK.due("the latest", ship.loggedMinute(0), i * 3);
            CHECK.due("the oldest", ship.loggedMinute(logged - 1), (i - logged + 1) * 3);
            CHECK.refused("beyond the oldest", Check.ELEMENT, () -> ship.loggedMinute(logged));
        }
        ship.undo();
        CHECK.due("the latest after undo", ship.loggedMinute(0), 57);
        CHECK.due("the oldest after undo", ship.loggedMinute(5), 42);
    }

    /** "the latest storm comes first", "starting at 0", "the log has no such position". */
    private static void latestStormComesFirst() {
        BallastControl ship = new BallastControl();
        CHECK.refused("an empty log", Check.ELEMENT, () -> ship.loggedMinute(0));
        for (int minute : new int[] {9, 2, 7, 4}) {
            ship.schedule(minute, 1);
        }
        CHECK.refused("scheduled ones are not in it", Check.ELEMENT, () -> ship.loggedMinute(0));
        ship.pass(120);
        int[] log = {9, 7, 4, 2};
        for (int i = 0; i < 4; i++) {
            CHECK.due("loggedMinute(" + i + ")", ship.loggedMinute(i), log[i]);
        }
        CHECK.refused("loggedMinute(4)", Check.ELEMENT, () -> ship.loggedMinute(4));
        CHECK.refused("loggedMinute(-1)", Check.ELEMENT, () -> ship.loggedMinute(-1));
    }

    /** "Throws NoSuchElementException if no storm is scheduled". */
    private static void noStormIsScheduled() {
        BallastControl ship = new BallastControl();
        CHECK.refused("none at first", Check.ELEMENT, () -> ship.nextStorm());
        CHECK.due("stormCount at first", ship.stormCount(), 0);
        ship.schedule(1, 1);
        CHECK.due("one", ship.nextStorm(), 1);
        ship.cancelStorm(1);
        CHECK.refused("the only one is cancelled", Check.ELEMENT, () -> ship.nextStorm());
        ship.schedule(1, 1);
        ship.pass(1);
        CHECK.refused("the only one has struck", Check.ELEMENT, () -> ship.nextStorm());
    }

    /** "Returns the minute of the next scheduled storm." */
    private static void nextOfSeveral() {
        BallastControl ship = new BallastControl();
        int[] minutes = {500, 40, 600, 30, 31, 1};
        int[] next = {500, 40, 40, 30, 30, 1};
        for (int i = 0; i < 6; i++) {
            ship.schedule(minutes[i], 1);
            CHECK.due("nextStorm", ship.nextStorm(), next[i]);
        }
        ship.pass(1);
        CHECK.due("after the first", ship.nextStorm(), 30);
        ship.pass(30);
        CHECK.due("after two more", ship.nextStorm(), 40);
    }

    /** "Returns the strength of the storm that is scheduled for a minute." */
    private static void strengthOfAMinute() {
        BallastControl ship = new BallastControl();
        for (int i = 6; i >= 1; i--) {
            ship.schedule(i * 10, i);
        }
        for (int i = 1; i <= 6; i++) {
            int minute = i * 10;
            CHECK.due("strengthAt(" + minute + ")", ship.strengthAt(minute), i);
            CHECK.refused("the minute before", Check.ELEMENT, () -> ship.strengthAt(minute - 1));
            CHECK.refused("the minute after", Check.ELEMENT, () -> ship.strengthAt(minute + 1));
        }
    }
}
