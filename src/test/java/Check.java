import java.util.NoSuchElementException;

/** Counts the answers that are not due, for the test programs. */
final class Check {
    static final Class<?> INDEX = IndexOutOfBoundsException.class;
    static final Class<?> ARGUMENT = IllegalArgumentException.class;
    static final Class<?> STATE = IllegalStateException.class;
    static final Class<?> ELEMENT = NoSuchElementException.class;
    static final Class<?> ARITHMETIC = ArithmeticException.class;

    /** A call whose answer, or whose exception, is looked at. */
    interface Call {
        Object answer();
    }

    private final String test;
    private int wrong;
    private int looked;

    Check(String test) {
        this.test = test;
    }

    void due(String what, Object got, Object want) {
        looked++;
        if (!want.equals(got)) {
            wrong++;
            System.out.println(test + ": " + what + " answered " + got + ", due is " + want);
        }
    }

    /** The class must be the very one: the machine's own exceptions are of classes below the document's. */
    void refused(String what, Class<?> want, Call call) {
        Object got;
        try {
            got = call.answer();
        } catch (RuntimeException e) {
            got = e.getClass();
        }
        due(what, got, want);
    }

    void end() {
        System.out.println(test + ": " + looked + " answers, " + wrong + " wrong");
        if (wrong > 0) {
            System.exit(1);
        }
    }

    /** Puts a program into the input buffer; one that does not fit is no answer of run, but a fault of the test. */
    static void type(BallastControl ship, String program) {
        for (char c : program.toCharArray()) {
            try {
                ship.append(c);
            } catch (IllegalArgumentException | IllegalStateException e) {
                throw new AssertionError("no room for '" + c + "' of '" + program + "'", e);
            }
        }
    }

    static int run(BallastControl ship, String program) {
        type(ship, program);
        return ship.run();
    }

    static String line(BallastControl ship, int length) {
        StringBuilder text = new StringBuilder();
        for (int i = 0; i < length; i++) {
            text.append(ship.lineChar(i));
        }
        return text.toString();
    }

    /** A ship with compartments of capacity 100 at these arms. */
    static BallastControl shipWithArms(int... arms) {
        BallastControl ship = new BallastControl();
        for (int arm : arms) {
            ship.addCompartment(arm, 100);
        }
        return ship;
    }

    /** Fills a compartment with water in one minute or more, without touching the others, and leaves no leak behind. */
    static void fill(BallastControl ship, int compartment, int amount) {
        int power = ship.setPower(0);
        int left = amount;
        while (left > 0) {
            int rate = Math.min(left, 20);
            ship.setLeak(compartment, rate);
            ship.pass(1);
            left -= rate;
        }
        ship.setLeak(compartment, 0);
        ship.setPower(power);
    }

    /** All that the face tells of the ship, without the buffer, the line and the stored positions. */
    static String state(BallastControl ship) {
        StringBuilder s = new StringBuilder();
        s.append("minute ").append(ship.minute()).append(" afloat ").append(ship.isAfloat());
        s.append(" pumped ").append(ship.pumpedTotal()).append(" weight ").append(ship.weight());
        s.append(" moment ").append(ship.moment()).append(" trim ").append(ship.trim());
        s.append(" balanced ").append(ship.isBalanced());
        for (int c = 0; c < ship.compartmentCount(); c++) {
            s.append("\nC").append(c).append(' ').append(ship.arm(c)).append(' ').append(ship.capacity(c));
            s.append(' ').append(ship.water(c)).append(' ').append(ship.leak(c)).append(' ').append(ship.loadOf(c));
            s.append(' ').append(ship.wouldPump(c));
        }
        for (int i = 0; i < ship.pieceCount(); i++) {
            int id = ship.idAt(i);
            s.append("\nP").append(id).append(' ').append(ship.weightOf(id)).append(' ').append(ship.compartmentOf(id));
        }
        s.append("\nstorms ").append(ship.stormCount());
        for (int m = 1; m <= 999 && ship.stormCount() > 0; m++) {
            int minute = ship.minute() + m;
            String strength = answerOrDash(() -> ship.strengthAt(minute));
            s.append(strength.equals("-") ? "" : " " + minute + "!" + strength);
        }
        s.append("\nlog");
        for (int i = 0; i < 6; i++) {
            int position = i;
            s.append(' ').append(answerOrDash(() -> ship.loggedMinute(position)));
        }
        return s.toString();
    }

    private static String answerOrDash(Call call) {
        try {
            return call.answer().toString();
        } catch (NoSuchElementException e) {
            return "-";
        }
    }
}
