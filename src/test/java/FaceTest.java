import java.lang.reflect.Constructor;
import java.lang.reflect.Field;
import java.lang.reflect.Method;
import java.lang.reflect.Modifier;
import java.util.ArrayList;
import java.util.Arrays;
import java.util.List;
import java.util.TreeSet;

/** The section 'The public face': the class has these members, with these exceptions, and no other public ones. */
public final class FaceTest {
    private static final Check CHECK = new Check("FaceTest");
    private static final String FACE = """
            int addCompartment(int, int) throws IllegalArgumentException, IllegalStateException
            int load(int, int) throws IndexOutOfBoundsException, IllegalArgumentException, IllegalStateException
            int unload(int) throws NoSuchElementException
            int shift(int, int) throws NoSuchElementException, IndexOutOfBoundsException, IllegalStateException
            int setLeak(int, int) throws IndexOutOfBoundsException, IllegalArgumentException
            int setPump(int, int) throws IndexOutOfBoundsException, IllegalArgumentException
            int transfer(int, int, int) throws IndexOutOfBoundsException, IllegalArgumentException, IllegalStateException
            int balance(int) throws IllegalArgumentException, IllegalStateException
            int setPower(int) throws IllegalArgumentException
            int setLimit(int) throws IllegalArgumentException
            int schedule(int, int) throws IllegalArgumentException, IllegalStateException
            int cancelStorm(int) throws NoSuchElementException
            int pass(int) throws IllegalArgumentException, IllegalStateException
            int minute()
            int compartmentCount()
            int arm(int) throws IndexOutOfBoundsException
            int capacity(int) throws IndexOutOfBoundsException
            int water(int) throws IndexOutOfBoundsException
            int leak(int) throws IndexOutOfBoundsException
            int loadOf(int) throws IndexOutOfBoundsException
            boolean wouldPump(int) throws IndexOutOfBoundsException
            int pumpAt(int) throws NoSuchElementException
            int minutesUntilFull(int) throws IndexOutOfBoundsException, NoSuchElementException
            int pieceCount()
            int idAt(int) throws IndexOutOfBoundsException
            int weightOf(int) throws NoSuchElementException
            int compartmentOf(int) throws NoSuchElementException
            int heaviestPiece() throws NoSuchElementException
            int weight()
            int weightByParts()
            int moment()
            int momentByParts()
            int trim()
            boolean isBalanced()
            boolean isAfloat()
            int bestSource(int) throws IllegalArgumentException, NoSuchElementException
            int bestTarget(int) throws IllegalArgumentException, NoSuchElementException
            int bestMoment(int) throws IllegalArgumentException, NoSuchElementException
            int transfersToBalance(int) throws IllegalArgumentException, NoSuchElementException
            int bestShiftPiece() throws NoSuchElementException
            int bestShiftCompartment() throws NoSuchElementException
            int momentAfter(int) throws IllegalArgumentException
            int minutesUntilSunk() throws NoSuchElementException
            int compartmentByLoad(int) throws NoSuchElementException
            int stormCount()
            int nextStorm() throws NoSuchElementException
            int strengthAt(int) throws NoSuchElementException
            int loggedMinute(int) throws NoSuchElementException
            long pumpedTotal()
            double meanWater() throws ArithmeticException
            float fillShare() throws ArithmeticException
            boolean isConsistent()
            int formatCompartment(int) throws IndexOutOfBoundsException
            int formatCargo(int) throws IndexOutOfBoundsException
            int formatStorms()
            char lineChar(int) throws IndexOutOfBoundsException
            int append(char) throws IllegalArgumentException, IllegalStateException
            int run() throws IllegalArgumentException, IllegalStateException
            int errorPosition() throws NoSuchElementException
            int failedCommand() throws NoSuchElementException
            int undoableCount()
            int undo() throws IllegalStateException
            int save()
            int restore() throws IllegalStateException
            """;

    public static void main(String[] args) {
        theClassIsPublicAndFinal();
        itHasOneConstructor();
        itHasTheseMethods();
        itShowsNothingElse();
        objectsAreApart();
        theLastOf512Calls();
        CHECK.end();
    }

    private static void theClassIsPublicAndFinal() {
        int modifiers = BallastControl.class.getModifiers();
        CHECK.due("public", Modifier.isPublic(modifiers), true);
        CHECK.due("final", Modifier.isFinal(modifiers), true);
        CHECK.due("no class above it", BallastControl.class.getSuperclass(), Object.class);
        CHECK.due("no interfaces", BallastControl.class.getInterfaces().length, 0);
    }

    private static void itHasOneConstructor() {
        Constructor<?>[] constructors = BallastControl.class.getDeclaredConstructors();
        CHECK.due("constructors", constructors.length, 1);
        CHECK.due("parameters", constructors[0].getParameterCount(), 0);
        CHECK.due("public", Modifier.isPublic(constructors[0].getModifiers()), true);
        CHECK.due("exceptions", constructors[0].getExceptionTypes().length, 0);
    }

    private static void itHasTheseMethods() {
        List<String> got = new ArrayList<>();
        for (Method method : BallastControl.class.getDeclaredMethods()) {
            if (Modifier.isPublic(method.getModifiers())) {
                got.add(headOf(method));
                CHECK.due(method.getName() + " is of an object", Modifier.isStatic(method.getModifiers()), false);
            }
        }
        List<String> want = FACE.lines().toList();
        CHECK.due("methods", got.size(), want.size());
        CHECK.due("heads", new TreeSet<>(got), new TreeSet<>(want));
    }

    private static String headOf(Method method) {
        String head = method.getReturnType() + " " + method.getName() + "(" + names(method.getParameterTypes()) + ")";
        Class<?>[] thrown = method.getExceptionTypes();
        return thrown.length == 0 ? head : head + " throws " + names(thrown);
    }

    private static String names(Class<?>[] types) {
        return String.join(", ", Arrays.stream(types).map(Class::getSimpleName).toList());
    }

    private static void itShowsNothingElse() {
        for (Field field : BallastControl.class.getDeclaredFields()) {
            CHECK.due(field.getName() + " is private", Modifier.isPrivate(field.getModifiers()), true);
        }
        for (Method method : BallastControl.class.getDeclaredMethods()) {
            int modifiers = method.getModifiers();
            CHECK.due(method.getName() + " is public or private",
                    Modifier.isPublic(modifiers) || Modifier.isPrivate(modifiers) || method.isSynthetic(), true);
        }
    }

    /** Each object is a ship of its own: what is done to one shows in no other one. */
    private static void objectsAreApart() {
        BallastControl bare = new BallastControl();
        BallastControl rich = Ships.rich();
        String before = Everything.of(Ships.rich());
        BallastControl full = Ships.full();
        full.unload(0);
        full.undo();
        full.save();
        full.restore();
        CHECK.refused("a malformed program of another ship", Check.ARGUMENT, () -> full.run());
        full.formatStorms();
        CHECK.due("everything of the rich ship", Everything.of(rich), before);
        CHECK.due("everything of the bare ship", Everything.of(bare), Everything.of(new BallastControl()));
    }

    /** "An object is used for at most 512 calls after it has been made". */
    private static void theLastOf512Calls() {
        BallastControl minutes = new BallastControl();
        for (int i = 0; i < 511; i++) {
            minutes.pass(120);
        }
        CHECK.due("the 512th call, of minute", minutes.minute(), 511 * 120);
        BallastControl pieces = Check.shipWithArms(1);
        for (int i = 0; i < 255; i++) {
            pieces.load(0, 50);
            pieces.unload(i);
        }
        CHECK.due("the 512th call, of load", pieces.load(0, 1), 255);
        BallastControl power = new BallastControl();
        for (int i = 0; i < 511; i++) {
            power.setPower(i % 9);
        }
        CHECK.due("the 512th call, of undo", power.undo(), 7);
        BallastControl storms = new BallastControl();
        for (int i = 0; i < 255; i++) {
            storms.schedule(i + 1, 1);
            storms.pass(1);
        }
        CHECK.due("the 511th call, of loggedMinute", storms.loggedMinute(5), 250);
        CHECK.due("the 512th call, of schedule", storms.schedule(255 + 999, 1), 1);
    }
}
