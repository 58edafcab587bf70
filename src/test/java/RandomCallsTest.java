import java.lang.reflect.InvocationTargetException;
import java.lang.reflect.Method;
import java.util.Arrays;
import java.util.Comparator;
import java.util.List;

/**
 * All promises: runs of calls with chosen and odd arguments, each answered by the class and by Model alike. The calls
 * are the same each time. An exception must be of the very class that the face declares for the method.
 */
public final class RandomCallsTest {
    private static final int RUNS = 1500;
    private static final int CALLS = 512;
    private static final Check CHECK = new Check("RandomCallsTest");
    private static final List<Method> METHODS = Arrays.stream(BallastControl.class.getDeclaredMethods())
            .filter(m -> java.lang.reflect.Modifier.isPublic(m.getModifiers()))
            .sorted(Comparator.comparing(Method::getName)).toList();
    private static final String[] CHANGES = {
        "addCompartment", "load", "load", "unload", "shift", "setLeak", "setLeak", "setPump", "transfer", "transfer",
        "balance", "setPower", "setLimit", "schedule", "schedule", "cancelStorm", "pass", "pass", "run", "run", "undo",
        "save", "restore"};
    private static final int[] ODD = {
        Integer.MIN_VALUE, -201, -10, -1, 0, 9, 10, 16, 20, 21, 50, 51, 120, 121, 200, 201, 999, 1000, Integer.MAX_VALUE};

    private static long seed = 20261119;

    public static void main(String[] args) throws ReflectiveOperationException {
        programsAreReadAlike();
        for (int run = 0; run < RUNS; run++) {
            BallastControl ship = new BallastControl();
            Model model = new Model();
            int patience = below(30);
            for (int call = 0; call < CALLS; call++) {
                oneCall(run, ship, model, patience);
            }
        }
        CHECK.end();
    }

    /** The generator is written out here so that every machine makes the same calls. */
    private static int below(int bound) {
        seed = seed * 6364136223846793005L + 1442695040888963407L;
        return (int) ((seed >>> 33) % bound);
    }

    private static Method method(String name) {
        return METHODS.stream().filter(m -> m.getName().equals(name)).findFirst().orElseThrow();
    }

    private static void oneCall(int run, BallastControl ship, Model model, int patience)
            throws ReflectiveOperationException {
        Method method = below(3) > 0 ? METHODS.get(below(METHODS.size())) : method(CHANGES[below(CHANGES.length)]);
        String name = method.getName();
        // Calls that take much back, or that fill the time up, are rarer, so that ships of every kind come up.
        if ((name.equals("restore") || name.equals("undo")) && below(30) > patience) {
            return;
        }
        if (name.equals("run") && below(8) > 0) {
            for (char c : program(below(3) + 1).toCharArray()) {
                compare(run, ship, model, method("append"), c);
            }
        }
        compare(run, ship, model, method, arguments(method, model));
    }

    private static void compare(int run, Object ship, Object model, Method method, Object... arguments)
            throws ReflectiveOperationException {
        Object want = answer(model, Model.class.getMethod(method.getName(), method.getParameterTypes()), arguments);
        Object got = answer(ship, method, arguments);
        if (want instanceof Class<?> c) {
            want = Arrays.stream(method.getExceptionTypes()).filter(e -> e.isAssignableFrom(c)).findFirst()
                    .orElseThrow();
        }
        CHECK.due("run " + run + ": " + method.getName() + Arrays.toString(arguments), got, want);
    }

    private static Object answer(Object target, Method method, Object[] arguments)
            throws ReflectiveOperationException {
        try {
            return method.invoke(target, arguments);
        } catch (InvocationTargetException e) {
            return e.getCause().getClass();
        }
    }

    private static Object[] arguments(Method method, Model model) {
        Class<?>[] types = method.getParameterTypes();
        Object[] arguments = new Object[types.length];
        for (int i = 0; i < types.length; i++) {
            if (types[i] == char.class) {
                arguments[i] = below(10) > 0 ? (char) (' ' + below(95)) : (char) below(300);
            } else {
                arguments[i] = below(25) == 0 ? ODD[below(ODD.length)] : fitting(method.getName(), i, model);
            }
        }
        return arguments;
    }

    private static int fitting(String name, int position, Model model) {
        int tank = below(model.compartmentCount() + 1);
        int id = model.pieceCount() > 0 ? model.idAt(below(model.pieceCount())) : 0;
        return switch (name) {
            case "addCompartment" -> position == 0 ? below(19) - 9 : 10 + below(191);
            case "load" -> position == 0 ? tank : 1 + below(50);
            case "unload", "weightOf", "compartmentOf" -> id;
            case "shift" -> position == 0 ? id : tank;
            case "setLeak", "setPump" -> position == 0 ? tank : below(21);
            case "transfer" -> position < 2 ? tank : 1 + below(40);
            case "balance", "bestSource", "bestTarget", "bestMoment", "transfersToBalance" -> 1 + below(60);
            case "setPower" -> below(9);
            case "setLimit" -> 1 + below(9);
            case "schedule" -> position == 0 ? model.minute() + 1 + below(12) : 1 + below(9);
            case "cancelStorm", "strengthAt" -> model.stormCount() > 0 && below(3) > 0
                    ? model.nextStorm() : model.minute() + below(12);
            case "pass", "momentAfter" -> 1 + below(below(4) == 0 ? 120 : 6);
            case "idAt", "lineChar" -> below(18);
            default -> below(9);
        };
    }

    private static String number() {
        int n = below(8) == 0 ? below(1000) : below(60);
        return below(10) == 0 ? String.format("%03d", n) : Integer.toString(n);
    }

    private static String command() {
        String d = Integer.toString(below(9));
        return switch (below(10)) {
            case 0 -> "tank " + (below(2) == 0 ? "-" : "") + d + " " + (10 + below(191));
            case 1 -> "load " + d + " " + number();
            case 2 -> "unload " + number();
            case 3 -> "shift " + number() + " " + d;
            case 4 -> "leak " + d + " " + below(21);
            case 5 -> "pump " + d + " " + below(21);
            case 6 -> "move " + d + " " + below(9) + " " + number();
            case 7 -> "power " + d;
            case 8 -> "storm " + number() + " " + d;
            default -> "minutes " + number();
        };
    }

    private static String program(int commands) {
        StringBuilder text = new StringBuilder(command());
        for (int i = 1; i < commands; i++) {
            text.append(';').append(command());
        }
        if (below(4) == 0) {
            spoil(text);
        }
        return text.substring(0, Math.min(text.length(), 60));
    }

    private static void spoil(StringBuilder text) {
        String signs = "0123456789 ;-tankloduepwrsimvhcf~";
        int at = below(text.length());
        switch (below(4)) {
            case 0 -> text.setLength(at);
            case 1 -> text.setCharAt(at, signs.charAt(below(signs.length())));
            case 2 -> text.insert(at, signs.charAt(below(signs.length())));
            default -> text.deleteCharAt(at);
        }
    }

    private static void programsAreReadAlike() {
        BallastControl ship = new BallastControl();
        for (int i = 0; i < 20000; i++) {
            String program = program(below(7) + 1);
            boolean malformed = false;
            try {
                Check.run(ship, program);
            } catch (IllegalArgumentException e) {
                malformed = true;
            } catch (IllegalStateException e) {
                malformed = false;
            }
            int want = Model.errorIn(program);
            CHECK.due("malformed '" + program + "'", malformed, !Model.isProgram(program));
            if (malformed) {
                CHECK.due("error position of '" + program + "'", ship.errorPosition(), want);
            }
        }
    }
}
