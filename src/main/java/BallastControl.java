import java.util.NoSuchElementException;

/**
 * The ballast control of a ship: compartments with water and cargo, leaks, pumps that share power, scheduled storms,
 * advice for balancing, a small command language, undo, and one saved copy.
 */
public final class BallastControl {
    private static final int MOST_COMPARTMENTS = 8;
    private static final int MOST_PIECES = 16;
    private static final int MOST_STORMS = 6;
    private static final int MOST_LOGGED = 6;
    private static final int MOST_CHANGES = 8;
    private static final int MOST_CHARACTERS = 60;
    // The shortest command has 7 characters, and a ";" stands between two, so 60 characters hold 7 whole ones.
    private static final int MOST_COMMANDS = 8;
    private static final int MOST_ARGUMENTS = 3;
    private static final int MOST_DIGITS = 3;

    private static final int GREATEST_ARM = 9;
    private static final int LEAST_CAPACITY = 10;
    private static final int GREATEST_CAPACITY = 200;
    private static final int GREATEST_RATE = 20;
    private static final int FIRST_PUMP_RATE = 5;
    private static final int GREATEST_PIECE = 50;
    private static final int GREATEST_AMOUNT = 200;
    private static final int GREATEST_POWER = 8;
    private static final int FIRST_POWER = 2;
    private static final int GREATEST_LIMIT = 9;
    private static final int FIRST_LIMIT = 5;
    private static final int GREATEST_STRENGTH = 9;
    private static final int FARTHEST_STORM = 999;
    private static final int MOST_MINUTES = 120;
    private static final int WEIGHT_AFLOAT = 900;
    private static final int TRIM_BASE = 100;
    private static final int CHECKED_AMOUNTS = 20;

    private static final Keyword[] KEYWORDS = Keyword.values();

    private final Ship ship;
    // Every question about a copy is answered on this one ship, so that no call makes a new one.
    private final Ship trial;
    private final Ship beforeRun;
    private final Ship saved;
    private boolean hasSaved;
    private final History history;
    private final Choice choice;
    private final StringBuilder line;
    private final Program program;
    private boolean hasError;
    private int errorAt;
    private boolean hasFailed;
    private int failedAt;

    public BallastControl() {
        ship = new Ship();
        trial = new Ship();
        beforeRun = new Ship();
        saved = new Ship();
        history = new History();
        choice = new Choice();
        line = new StringBuilder();
        program = new Program();
    }

    // ---- changes ----

    public int addCompartment(int arm, int capacity) throws IllegalArgumentException, IllegalStateException {
        refuse(ship.faultOfAdding(arm, capacity));
        history.keep(ship);
        return ship.hold.add(arm, capacity);
    }

    public int load(int compartment, int weight)
            throws IndexOutOfBoundsException, IllegalArgumentException, IllegalStateException {
        refuse(ship.faultOfLoading(compartment, weight));
        history.keep(ship);
        return ship.cargo.put(compartment, weight);
    }

    public int unload(int id) throws NoSuchElementException {
        refuse(ship.faultOfUnloading(id));
        history.keep(ship);
        return ship.cargo.remove(id);
    }

    public int shift(int id, int compartment)
            throws NoSuchElementException, IndexOutOfBoundsException, IllegalStateException {
        refuse(ship.faultOfShifting(id, compartment));
        history.keep(ship);
        return ship.cargo.carry(id, compartment);
    }

    public int setLeak(int compartment, int rate) throws IndexOutOfBoundsException, IllegalArgumentException {
        refuse(ship.faultOfRate(compartment, rate));
        history.keep(ship);
        int previous = ship.hold.leak[compartment];
        ship.hold.leak[compartment] = rate;
        return previous;
    }

    public int setPump(int compartment, int rate) throws IndexOutOfBoundsException, IllegalArgumentException {
        refuse(ship.faultOfRate(compartment, rate));
        history.keep(ship);
        int previous = ship.hold.pump[compartment];
        ship.hold.pump[compartment] = rate;
        return previous;
    }

    public int transfer(int source, int target, int amount)
            throws IndexOutOfBoundsException, IllegalArgumentException, IllegalStateException {
        refuse(ship.faultOfMoving(source, target, amount));
        history.keep(ship);
        ship.hold.move(source, target, amount);
        return ship.totalMoment();
    }

    public int balance(int amount) throws IllegalArgumentException, IllegalStateException {
        refuse(faultOfAmount(amount));
        int before = ship.totalMoment();
        choice.searchTransfers(ship.hold, amount, before);
        if (!choice.improves(before)) {
            throw new IllegalStateException("no transfer makes the moment smaller");
        }
        history.keep(ship);
        ship.hold.move(choice.first, choice.second, amount);
        return ship.totalMoment();
    }

    public int setPower(int pumps) throws IllegalArgumentException {
        refuse(ship.faultOfPower(pumps));
        history.keep(ship);
        int previous = ship.power;
        ship.power = pumps;
        return previous;
    }

    public int setLimit(int limit) throws IllegalArgumentException {
        if (!isWithin(limit, 1, GREATEST_LIMIT)) {
            throw new IllegalArgumentException("limit out of range");
        }
        history.keep(ship);
        int previous = ship.limit;
        ship.limit = limit;
        return previous;
    }

    public int schedule(int minute, int strength) throws IllegalArgumentException, IllegalStateException {
        refuse(ship.faultOfScheduling(minute, strength));
        history.keep(ship);
        ship.storms.add(minute, strength);
        return ship.storms.count;
    }

    public int cancelStorm(int minute) throws NoSuchElementException {
        int position = positionOfStorm(minute);
        history.keep(ship);
        return ship.storms.removeAt(position);
    }

    public int pass(int minutes) throws IllegalArgumentException, IllegalStateException {
        refuse(ship.faultOfPassing(minutes));
        history.keep(ship);
        return ship.letPass(minutes);
    }

    // ---- compartments ----

    public int minute() {
        return ship.minute;
    }

    public int compartmentCount() {
        return ship.hold.count;
    }

    public int arm(int compartment) throws IndexOutOfBoundsException {
        checkCompartment(compartment);
        return ship.hold.arm[compartment];
    }

    public int capacity(int compartment) throws IndexOutOfBoundsException {
        checkCompartment(compartment);
        return ship.hold.capacity[compartment];
    }

    public int water(int compartment) throws IndexOutOfBoundsException {
        checkCompartment(compartment);
        return ship.hold.water[compartment];
    }

    public int leak(int compartment) throws IndexOutOfBoundsException {
        checkCompartment(compartment);
        return ship.hold.leak[compartment];
    }

    public int loadOf(int compartment) throws IndexOutOfBoundsException {
        checkCompartment(compartment);
        return ship.loadIn(compartment);
    }

    public boolean wouldPump(int compartment) throws IndexOutOfBoundsException {
        checkCompartment(compartment);
        return ship.hold.hasPower(compartment, ship.power);
    }

    public int pumpAt(int rank) throws NoSuchElementException {
        for (int compartment = 0; compartment < ship.hold.count; compartment++) {
            if (ship.hold.canPump(compartment) && ship.hold.pumpRank(compartment) == rank) {
                return compartment;
            }
        }
        throw new NoSuchElementException("no such rank");
    }

    public int minutesUntilFull(int compartment) throws IndexOutOfBoundsException, NoSuchElementException {
        checkCompartment(compartment);
        int free = ship.hold.capacity[compartment] - ship.hold.water[compartment];
        if (free == 0) {
            return 0;
        }
        int rate = ship.hold.leak[compartment];
        if (rate <= 0) {
            throw new NoSuchElementException("never full");
        }
        return (free + rate - 1) / rate;
    }

    // ---- cargo ----

    public int pieceCount() {
        return ship.cargo.count;
    }

    public int idAt(int position) throws IndexOutOfBoundsException {
        if (position < 0 || position >= ship.cargo.count) {
            throw new IndexOutOfBoundsException("no such position");
        }
        return ship.cargo.id[position];
    }

    public int weightOf(int id) throws NoSuchElementException {
        return ship.cargo.weight[positionOfPiece(id)];
    }

    public int compartmentOf(int id) throws NoSuchElementException {
        return ship.cargo.place[positionOfPiece(id)];
    }

    public int heaviestPiece() throws NoSuchElementException {
        Cargo cargo = ship.cargo;
        if (cargo.count == 0) {
            throw new NoSuchElementException("no piece on board");
        }
        int heaviest = 0;
        for (int i = 1; i < cargo.count; i++) {
            if (cargo.weight[i] > cargo.weight[heaviest]) {
                heaviest = i;
            }
        }
        return cargo.id[heaviest];
    }

    // ---- weight, moment and trim ----

    public int weight() {
        return ship.totalWeight();
    }

    public int weightByParts() {
        return ship.weightOfParts();
    }

    public int moment() {
        return ship.totalMoment();
    }

    public int momentByParts() {
        return ship.momentOfParts();
    }

    public int trim() {
        return trimFor(ship.totalMoment(), ship.totalWeight());
    }

    public boolean isBalanced() {
        return ship.isWithinLimit(ship.totalMoment(), ship.totalWeight());
    }

    public boolean isAfloat() {
        return !ship.sunk;
    }

    // ---- advice ----

    public int bestSource(int amount) throws IllegalArgumentException, NoSuchElementException {
        findBestTransfer(amount);
        return choice.first;
    }

    public int bestTarget(int amount) throws IllegalArgumentException, NoSuchElementException {
        findBestTransfer(amount);
        return choice.second;
    }

    public int bestMoment(int amount) throws IllegalArgumentException, NoSuchElementException {
        findBestTransfer(amount);
        return choice.moment;
    }

    public int transfersToBalance(int amount) throws IllegalArgumentException, NoSuchElementException {
        refuse(faultOfAmount(amount));
        trial.copyFrom(ship);
        int weight = trial.totalWeight();
        int moment = trial.totalMoment();
        // Each transfer makes the absolute moment smaller by 1 at least, and a moment of 0 is balanced.
        int most = Math.abs(moment);
        for (int done = 0; done <= most; done++) {
            if (trial.isWithinLimit(moment, weight)) {
                return done;
            }
            choice.searchTransfers(trial.hold, amount, moment);
            if (!choice.improves(moment)) {
                break;
            }
            trial.hold.move(choice.first, choice.second, amount);
            moment = choice.moment;
        }
        throw new NoSuchElementException("transfers do not balance the ship");
    }

    public int bestShiftPiece() throws NoSuchElementException {
        findBestShift();
        return choice.first;
    }

    public int bestShiftCompartment() throws NoSuchElementException {
        findBestShift();
        return choice.second;
    }

    public int momentAfter(int minutes) throws IllegalArgumentException {
        if (!isWithin(minutes, 0, MOST_MINUTES)) {
            throw new IllegalArgumentException("number of minutes out of range");
        }
        trial.copyFrom(ship);
        trial.letPass(minutes);
        return trial.totalMoment();
    }

    public int minutesUntilSunk() throws NoSuchElementException {
        trial.copyFrom(ship);
        int passed = trial.letPass(MOST_MINUTES);
        if (!trial.sunk) {
            throw new NoSuchElementException("does not sink");
        }
        return passed;
    }

    public int compartmentByLoad(int rank) throws NoSuchElementException {
        for (int compartment = 0; compartment < ship.hold.count; compartment++) {
            if (ship.loadRank(compartment) == rank) {
                return compartment;
            }
        }
        throw new NoSuchElementException("no such rank");
    }

    // ---- storms ----

    public int stormCount() {
        return ship.storms.count;
    }

    public int nextStorm() throws NoSuchElementException {
        if (ship.storms.count == 0) {
            throw new NoSuchElementException("no storm is scheduled");
        }
        return ship.storms.minutes[0];
    }

    public int strengthAt(int minute) throws NoSuchElementException {
        return ship.storms.strengths[positionOfStorm(minute)];
    }

    public int loggedMinute(int position) throws NoSuchElementException {
        if (position < 0 || position >= ship.storms.logged) {
            throw new NoSuchElementException("the log has no such position");
        }
        return ship.storms.log[position];
    }

    // ---- sums and checks ----

    public long pumpedTotal() {
        return ship.pumped;
    }

    public double meanWater() throws ArithmeticException {
        checkForMean();
        return (double) ship.hold.totalWater() / ship.hold.count;
    }

    public float fillShare() throws ArithmeticException {
        checkForMean();
        return (float) ship.hold.totalWater() / ship.hold.totalCapacity();
    }

    public boolean isConsistent() {
        return ship.totalWeight() == ship.weightOfParts()
                && ship.totalMoment() == ship.momentOfParts()
                && adviceHolds()
                && !ship.hold.overflows();
    }

    // ---- the line ----

    public int formatCompartment(int compartment) throws IndexOutOfBoundsException {
        checkCompartment(compartment);
        Hold hold = ship.hold;
        line.setLength(0);
        line.append('C').append(compartment).append(" a").append(hold.arm[compartment]);
        line.append(' ').append(hold.water[compartment]).append('/').append(hold.capacity[compartment]);
        line.append(" +").append(ship.cargo.weightIn(compartment));
        if (hold.leak[compartment] > 0) {
            line.append(" l").append(hold.leak[compartment]);
        }
        return line.length();
    }

    public int formatCargo(int compartment) throws IndexOutOfBoundsException {
        checkCompartment(compartment);
        Cargo cargo = ship.cargo;
        line.setLength(0);
        for (int i = 0; i < cargo.count; i++) {
            if (cargo.place[i] == compartment) {
                separate(',');
                line.append(cargo.id[i]).append('*').append(cargo.weight[i]);
            }
        }
        return line.length();
    }

    public int formatStorms() {
        Storms storms = ship.storms;
        line.setLength(0);
        for (int i = 0; i < storms.count; i++) {
            separate(' ');
            line.append(storms.minutes[i]).append('!').append(storms.strengths[i]);
        }
        return line.length();
    }

    public char lineChar(int index) throws IndexOutOfBoundsException {
        if (index < 0 || index >= line.length()) {
            throw new IndexOutOfBoundsException("the line has no such index");
        }
        return line.charAt(index);
    }

    // ---- commands ----

    public int append(char character) throws IllegalArgumentException, IllegalStateException {
        if (character < ' ' || character > '~') {
            throw new IllegalArgumentException("character out of range");
        }
        if (program.input.length() >= MOST_CHARACTERS) {
            throw new IllegalStateException("the buffer is full");
        }
        program.input.append(character);
        return program.input.length();
    }

    public int run() throws IllegalArgumentException, IllegalStateException {
        boolean wellFormed = program.parse();
        program.input.setLength(0);
        if (!wellFormed) {
            hasError = true;
            errorAt = program.position;
            throw new IllegalArgumentException("malformed program");
        }
        beforeRun.copyFrom(ship);
        for (int i = 0; i < program.count; i++) {
            int[] row = program.arguments[i];
            if (faultOf(program.keywords[i], row[0], row[1], row[2]) != Fault.NONE) {
                ship.copyFrom(beforeRun);
                hasFailed = true;
                failedAt = i;
                throw new IllegalStateException("a command failed");
            }
            carryOut(program.keywords[i], row[0], row[1], row[2]);
        }
        history.keep(beforeRun);
        return program.count;
    }

    public int errorPosition() throws NoSuchElementException {
        if (!hasError) {
            throw new NoSuchElementException("no program was malformed");
        }
        return errorAt;
    }

    public int failedCommand() throws NoSuchElementException {
        if (!hasFailed) {
            throw new NoSuchElementException("no command failed");
        }
        return failedAt;
    }

    // ---- undo, save and restore ----

    public int undoableCount() {
        return history.count;
    }

    public int undo() throws IllegalStateException {
        if (history.count == 0) {
            throw new IllegalStateException("no change can be undone");
        }
        ship.copyFrom(history.takeLatest());
        return history.count;
    }

    public int save() {
        saved.copyFrom(ship);
        hasSaved = true;
        return saved.hold.count;
    }

    public int restore() throws IllegalStateException {
        if (!hasSaved) {
            throw new IllegalStateException("there is no saved copy");
        }
        ship.copyFrom(saved);
        history.clear();
        return ship.hold.count;
    }

    // ---- helpers of the face ----

    private static boolean isWithin(int value, int least, int greatest) {
        return value >= least && value <= greatest;
    }

    private static int trimFor(int moment, int weight) {
        int divisor = weight + TRIM_BASE;
        return divisor > 0 ? moment / divisor : 0;
    }

    private static Fault faultOfAmount(int amount) {
        return isWithin(amount, 1, GREATEST_AMOUNT) ? Fault.NONE : Fault.BAD_ARGUMENT;
    }

    private static void refuse(Fault fault) {
        if (fault == Fault.NO_INDEX) {
            throw new IndexOutOfBoundsException("no such compartment");
        }
        if (fault == Fault.BAD_ARGUMENT) {
            throw new IllegalArgumentException("argument out of range");
        }
        if (fault == Fault.BAD_STATE) {
            throw new IllegalStateException("not possible now");
        }
        if (fault == Fault.NO_ELEMENT) {
            throw new NoSuchElementException("no such piece");
        }
    }

    private void checkCompartment(int compartment) {
        if (!ship.hold.has(compartment)) {
            throw new IndexOutOfBoundsException("no such compartment");
        }
    }

    private void checkForMean() {
        if (ship.hold.count == 0) {
            throw new ArithmeticException("no compartments");
        }
    }

    private int positionOfPiece(int id) {
        int position = ship.cargo.find(id);
        if (position < 0) {
            throw new NoSuchElementException("no such piece");
        }
        return position;
    }

    private int positionOfStorm(int minute) {
        int position = ship.storms.find(minute);
        if (position < 0) {
            throw new NoSuchElementException("no such storm");
        }
        return position;
    }

    private void findBestTransfer(int amount) {
        refuse(faultOfAmount(amount));
        choice.searchTransfers(ship.hold, amount, ship.totalMoment());
        if (!choice.found) {
            throw new NoSuchElementException("no transfer is possible");
        }
    }

    private void findBestShift() {
        choice.searchShifts(ship);
        if (!choice.found) {
            throw new NoSuchElementException("no piece can be moved");
        }
    }

    private boolean adviceHolds() {
        int before = ship.totalMoment();
        for (int amount = 1; amount <= CHECKED_AMOUNTS; amount++) {
            choice.searchTransfers(ship.hold, amount, before);
            if (choice.found) {
                trial.copyFrom(ship);
                trial.hold.move(choice.first, choice.second, amount);
                if (trial.totalMoment() != choice.moment) {
                    return false;
                }
            }
        }
        return true;
    }

    private void separate(char separator) {
        if (line.length() > 0) {
            line.append(separator);
        }
    }

    private Fault faultOf(Keyword keyword, int first, int second, int third) {
        switch (keyword) {
            case TANK:
                return ship.faultOfAdding(first, second);
            case LOAD:
                return ship.faultOfLoading(first, second);
            case UNLOAD:
                return ship.faultOfUnloading(first);
            case SHIFT:
                return ship.faultOfShifting(first, second);
            case LEAK:
            case PUMP:
                return ship.faultOfRate(first, second);
            case MOVE:
                return ship.faultOfMoving(first, second, third);
            case POWER:
                return ship.faultOfPower(first);
            case STORM:
                return ship.faultOfScheduling(first, second);
            default:
                return ship.faultOfPassing(first);
        }
    }

    private void carryOut(Keyword keyword, int first, int second, int third) {
        switch (keyword) {
            case TANK:
                ship.hold.add(first, second);
                break;
            case LOAD:
                ship.cargo.put(first, second);
                break;
            case UNLOAD:
                ship.cargo.remove(first);
                break;
            case SHIFT:
                ship.cargo.carry(first, second);
                break;
            case LEAK:
                ship.hold.leak[first] = second;
                break;
            case PUMP:
                ship.hold.pump[first] = second;
                break;
            case MOVE:
                ship.hold.move(first, second, third);
                break;
            case POWER:
                ship.power = first;
                break;
            case STORM:
                ship.storms.add(first, second);
                break;
            default:
                ship.letPass(first);
                break;
        }
    }

    /** Why a call is refused: a method of the face throws for it, and a command of a program fails for it. */
    private enum Fault { NONE, NO_INDEX, BAD_ARGUMENT, BAD_STATE, NO_ELEMENT }

    /** The commands: the word up to its blank, then the arguments: a is an arm, d a digit, n a number. */
    private enum Keyword {
        TANK("tank ", "a n"),
        LOAD("load ", "d n"),
        UNLOAD("unload ", "n"),
        SHIFT("shift ", "n d"),
        LEAK("leak ", "d n"),
        PUMP("pump ", "d n"),
        MOVE("move ", "d d n"),
        POWER("power ", "d"),
        STORM("storm ", "n d"),
        MINUTES("minutes ", "n");

        private final String word;
        private final String shape;

        Keyword(String word, String shape) {
            this.word = word;
            this.shape = shape;
        }
    }

    /** The compartments in the order of their numbers. */
    private static final class Hold {
        int count;
        final int[] arm = new int[MOST_COMPARTMENTS];
        final int[] capacity = new int[MOST_COMPARTMENTS];
        final int[] water = new int[MOST_COMPARTMENTS];
        final int[] leak = new int[MOST_COMPARTMENTS];
        final int[] pump = new int[MOST_COMPARTMENTS];
        private final boolean[] running = new boolean[MOST_COMPARTMENTS];

        void copyFrom(Hold other) {
            count = other.count;
            System.arraycopy(other.arm, 0, arm, 0, MOST_COMPARTMENTS);
            System.arraycopy(other.capacity, 0, capacity, 0, MOST_COMPARTMENTS);
            System.arraycopy(other.water, 0, water, 0, MOST_COMPARTMENTS);
            System.arraycopy(other.leak, 0, leak, 0, MOST_COMPARTMENTS);
            System.arraycopy(other.pump, 0, pump, 0, MOST_COMPARTMENTS);
        }

        boolean has(int compartment) {
            return compartment >= 0 && compartment < count;
        }

        int armOf(int compartment) {
            return has(compartment) ? arm[compartment] : 0;
        }

        int add(int newArm, int newCapacity) {
            int added = count;
            arm[added] = newArm;
            capacity[added] = newCapacity;
            water[added] = 0;
            leak[added] = 0;
            pump[added] = FIRST_PUMP_RATE;
            count++;
            return added;
        }

        boolean canMove(int source, int target, int amount) {
            return source != target && water[source] >= amount && water[target] + amount <= capacity[target];
        }

        void move(int source, int target, int amount) {
            water[source] -= amount;
            water[target] += amount;
        }

        void takeInLeaks() {
            for (int i = 0; i < count; i++) {
                water[i] = Math.min(water[i] + leak[i], capacity[i]);
            }
        }

        boolean canPump(int compartment) {
            return pump[compartment] > 0 && water[compartment] > 0;
        }

        int pumpRank(int compartment) {
            int rank = 0;
            for (int i = 0; i < count; i++) {
                if (canPump(i) && pumpsBefore(i, compartment)) {
                    rank++;
                }
            }
            return rank;
        }

        private boolean pumpsBefore(int one, int other) {
            return water[one] > water[other] || (water[one] == water[other] && one < other);
        }

        boolean hasPower(int compartment, int power) {
            return canPump(compartment) && pumpRank(compartment) < power;
        }

        int pumpOut(int power) {
            // The order is that of the water before any pump runs, so all are chosen first.
            for (int i = 0; i < count; i++) {
                running[i] = hasPower(i, power);
            }
            int pumped = 0;
            for (int i = 0; i < count; i++) {
                if (running[i]) {
                    int out = Math.min(pump[i], water[i]);
                    water[i] -= out;
                    pumped += out;
                }
            }
            return pumped;
        }

        int totalWater() {
            int sum = 0;
            for (int i = 0; i < count; i++) {
                sum += water[i];
            }
            return sum;
        }

        int totalCapacity() {
            int sum = 0;
            for (int i = 0; i < count; i++) {
                sum += capacity[i];
            }
            return sum;
        }

        boolean overflows() {
            for (int i = 0; i < count; i++) {
                if (water[i] > capacity[i]) {
                    return true;
                }
            }
            return false;
        }
    }

    /** The pieces on board, always in the order of their ids, since a new piece has the greatest one. */
    private static final class Cargo {
        int count;
        int nextId;
        final int[] id = new int[MOST_PIECES];
        final int[] weight = new int[MOST_PIECES];
        final int[] place = new int[MOST_PIECES];

        void copyFrom(Cargo other) {
            count = other.count;
            nextId = other.nextId;
            System.arraycopy(other.id, 0, id, 0, MOST_PIECES);
            System.arraycopy(other.weight, 0, weight, 0, MOST_PIECES);
            System.arraycopy(other.place, 0, place, 0, MOST_PIECES);
        }

        int find(int wanted) {
            for (int i = 0; i < count; i++) {
                if (id[i] == wanted) {
                    return i;
                }
            }
            return -1;
        }

        int put(int compartment, int newWeight) {
            id[count] = nextId;
            weight[count] = newWeight;
            place[count] = compartment;
            count++;
            return nextId++;
        }

        int remove(int wanted) {
            int position = find(wanted);
            if (position < 0) {
                return 0;
            }
            int removed = weight[position];
            count--;
            for (int i = position; i < count; i++) {
                id[i] = id[i + 1];
                weight[i] = weight[i + 1];
                place[i] = place[i + 1];
            }
            return removed;
        }

        int carry(int wanted, int compartment) {
            int position = find(wanted);
            if (position < 0) {
                return -1;
            }
            int previous = place[position];
            place[position] = compartment;
            return previous;
        }

        int weightIn(int compartment) {
            int sum = 0;
            for (int i = 0; i < count; i++) {
                if (place[i] == compartment) {
                    sum += weight[i];
                }
            }
            return sum;
        }

        int totalWeight() {
            int sum = 0;
            for (int i = 0; i < count; i++) {
                sum += weight[i];
            }
            return sum;
        }
    }

    /** The scheduled storms in the order of minutes, and the log with the latest storm first. */
    private static final class Storms {
        int count;
        final int[] minutes = new int[MOST_STORMS];
        final int[] strengths = new int[MOST_STORMS];
        int logged;
        final int[] log = new int[MOST_LOGGED];

        void copyFrom(Storms other) {
            count = other.count;
            System.arraycopy(other.minutes, 0, minutes, 0, MOST_STORMS);
            System.arraycopy(other.strengths, 0, strengths, 0, MOST_STORMS);
            logged = other.logged;
            System.arraycopy(other.log, 0, log, 0, MOST_LOGGED);
        }

        int find(int minute) {
            for (int i = 0; i < count; i++) {
                if (minutes[i] == minute) {
                    return i;
                }
            }
            return -1;
        }

        void add(int minute, int strength) {
            int free = count;
            while (free > 0 && minutes[free - 1] > minute) {
                minutes[free] = minutes[free - 1];
                strengths[free] = strengths[free - 1];
                free--;
            }
            minutes[free] = minute;
            strengths[free] = strength;
            count++;
        }

        int removeAt(int position) {
            int removed = strengths[position];
            count--;
            for (int i = position; i < count; i++) {
                minutes[i] = minutes[i + 1];
                strengths[i] = strengths[i + 1];
            }
            return removed;
        }

        void enterIntoLog(int minute) {
            logged = Math.min(logged + 1, MOST_LOGGED);
            for (int i = logged - 1; i > 0; i--) {
                log[i] = log[i - 1];
            }
            log[0] = minute;
        }
    }

    /** Everything that changes can change, with the reasons against each change. */
    private static final class Ship {
        final Hold hold = new Hold();
        final Cargo cargo = new Cargo();
        final Storms storms = new Storms();
        int minute;
        int power = FIRST_POWER;
        int limit = FIRST_LIMIT;
        boolean sunk;
        long pumped;

        void copyFrom(Ship other) {
            hold.copyFrom(other.hold);
            cargo.copyFrom(other.cargo);
            storms.copyFrom(other.storms);
            minute = other.minute;
            power = other.power;
            limit = other.limit;
            sunk = other.sunk;
            pumped = other.pumped;
        }

        Fault faultOfAdding(int arm, int capacity) {
            if (!isWithin(arm, -GREATEST_ARM, GREATEST_ARM)
                    || !isWithin(capacity, LEAST_CAPACITY, GREATEST_CAPACITY)) {
                return Fault.BAD_ARGUMENT;
            }
            return hold.count < MOST_COMPARTMENTS ? Fault.NONE : Fault.BAD_STATE;
        }

        Fault faultOfLoading(int compartment, int weight) {
            if (!hold.has(compartment)) {
                return Fault.NO_INDEX;
            }
            if (!isWithin(weight, 1, GREATEST_PIECE)) {
                return Fault.BAD_ARGUMENT;
            }
            boolean carries = cargo.count < MOST_PIECES && totalWeight() + weight <= WEIGHT_AFLOAT;
            return carries ? Fault.NONE : Fault.BAD_STATE;
        }

        Fault faultOfUnloading(int id) {
            return cargo.find(id) >= 0 ? Fault.NONE : Fault.NO_ELEMENT;
        }

        Fault faultOfShifting(int id, int compartment) {
            int position = cargo.find(id);
            if (position < 0) {
                return Fault.NO_ELEMENT;
            }
            if (!hold.has(compartment)) {
                return Fault.NO_INDEX;
            }
            return cargo.place[position] != compartment ? Fault.NONE : Fault.BAD_STATE;
        }

        Fault faultOfRate(int compartment, int rate) {
            if (!hold.has(compartment)) {
                return Fault.NO_INDEX;
            }
            return isWithin(rate, 0, GREATEST_RATE) ? Fault.NONE : Fault.BAD_ARGUMENT;
        }

        Fault faultOfMoving(int source, int target, int amount) {
            if (!hold.has(source) || !hold.has(target)) {
                return Fault.NO_INDEX;
            }
            if (!isWithin(amount, 1, GREATEST_AMOUNT)) {
                return Fault.BAD_ARGUMENT;
            }
            return hold.canMove(source, target, amount) ? Fault.NONE : Fault.BAD_STATE;
        }

        Fault faultOfPower(int pumps) {
            return isWithin(pumps, 0, GREATEST_POWER) ? Fault.NONE : Fault.BAD_ARGUMENT;
        }

        Fault faultOfScheduling(int stormMinute, int strength) {
            // The first test keeps the difference in the second from wrapping around.
            if (stormMinute <= minute || stormMinute - minute > FARTHEST_STORM
                    || !isWithin(strength, 1, GREATEST_STRENGTH)) {
                return Fault.BAD_ARGUMENT;
            }
            boolean free = storms.find(stormMinute) < 0 && storms.count < MOST_STORMS;
            return free ? Fault.NONE : Fault.BAD_STATE;
        }

        Fault faultOfPassing(int minutes) {
            if (!isWithin(minutes, 1, MOST_MINUTES)) {
                return Fault.BAD_ARGUMENT;
            }
            return sunk ? Fault.BAD_STATE : Fault.NONE;
        }

        int letPass(int minutes) {
            int passed = 0;
            while (passed < minutes && !sunk) {
                passed++;
                minute++;
                strikeIfScheduled();
                hold.takeInLeaks();
                pumped += hold.pumpOut(power);
                sunk = totalWeight() > WEIGHT_AFLOAT;
            }
            return passed;
        }

        private void strikeIfScheduled() {
            int position = storms.find(minute);
            if (position < 0) {
                return;
            }
            int strength = storms.removeAt(position);
            storms.enterIntoLog(minute);
            if (hold.count > 0) {
                int hit = fullestCompartment();
                hold.leak[hit] = Math.min(hold.leak[hit] + strength, GREATEST_RATE);
            }
        }

        private int fullestCompartment() {
            int fullest = 0;
            for (int i = 1; i < hold.count; i++) {
                if (loadIn(i) > loadIn(fullest)) {
                    fullest = i;
                }
            }
            return fullest;
        }

        int loadIn(int compartment) {
            return hold.water[compartment] + cargo.weightIn(compartment);
        }

        int loadRank(int compartment) {
            int rank = 0;
            for (int i = 0; i < hold.count; i++) {
                if (isLoadedBefore(i, compartment)) {
                    rank++;
                }
            }
            return rank;
        }

        private boolean isLoadedBefore(int one, int other) {
            int difference = loadIn(one) - loadIn(other);
            if (difference == 0) {
                difference = hold.water[one] - hold.water[other];
            }
            return difference > 0 || (difference == 0 && one < other);
        }

        int totalWeight() {
            int sum = 0;
            for (int i = 0; i < hold.count; i++) {
                sum += loadIn(i);
            }
            return sum;
        }

        int weightOfParts() {
            return hold.totalWater() + cargo.totalWeight();
        }

        int totalMoment() {
            int sum = 0;
            for (int i = 0; i < hold.count; i++) {
                sum += loadIn(i) * hold.arm[i];
            }
            return sum;
        }

        int momentOfParts() {
            int sum = 0;
            for (int i = 0; i < hold.count; i++) {
                sum += hold.water[i] * hold.arm[i];
            }
            for (int i = 0; i < cargo.count; i++) {
                sum += cargo.weight[i] * hold.armOf(cargo.place[i]);
            }
            return sum;
        }

        boolean isWithinLimit(int moment, int weight) {
            return Math.abs(trimFor(moment, weight)) <= limit;
        }
    }

    /** The best of several moves: the one with the smallest absolute moment, and of several the first offered. */
    private static final class Choice {
        boolean found;
        int first;
        int second;
        int moment;

        private void offer(int newFirst, int newSecond, int newMoment) {
            if (!found || Math.abs(newMoment) < Math.abs(moment)) {
                found = true;
                first = newFirst;
                second = newSecond;
                moment = newMoment;
            }
        }

        boolean improves(int before) {
            return found && Math.abs(moment) < Math.abs(before);
        }

        void searchTransfers(Hold hold, int amount, int before) {
            found = false;
            for (int source = 0; source < hold.count; source++) {
                for (int target = 0; target < hold.count; target++) {
                    if (hold.canMove(source, target, amount)) {
                        offer(source, target, before + amount * (hold.arm[target] - hold.arm[source]));
                    }
                }
            }
        }

        void searchShifts(Ship ship) {
            found = false;
            int before = ship.totalMoment();
            for (int i = 0; i < ship.cargo.count; i++) {
                int arm = ship.hold.armOf(ship.cargo.place[i]);
                for (int target = 0; target < ship.hold.count; target++) {
                    if (target != ship.cargo.place[i]) {
                        int change = ship.cargo.weight[i] * (ship.hold.arm[target] - arm);
                        offer(ship.cargo.id[i], target, before + change);
                    }
                }
            }
        }
    }

    /** The ships before the latest changes, in a ring, so that a change makes no new ship. */
    private static final class History {
        private final Ship[] ships = new Ship[MOST_CHANGES];
        private int next;
        int count;

        History() {
            for (int i = 0; i < MOST_CHANGES; i++) {
                ships[i] = new Ship();
            }
        }

        void keep(Ship ship) {
            ships[next].copyFrom(ship);
            next = (next + 1) % MOST_CHANGES;
            count = Math.min(count + 1, MOST_CHANGES);
        }

        Ship takeLatest() {
            next = (next + MOST_CHANGES - 1) % MOST_CHANGES;
            count--;
            return ships[next];
        }

        void clear() {
            count = 0;
        }
    }

    /** The input buffer and the program read from it; where that is malformed, reading stops at its error position. */
    private static final class Program {
        final StringBuilder input = new StringBuilder();
        final Keyword[] keywords = new Keyword[MOST_COMMANDS];
        final int[][] arguments = new int[MOST_COMMANDS][MOST_ARGUMENTS];
        int count;
        int position;
        private int value;

        Program() {
            for (int i = 0; i < MOST_COMMANDS; i++) {
                keywords[i] = Keyword.TANK;
            }
        }

        boolean parse() {
            position = 0;
            count = 0;
            for (int i = 0; i < MOST_COMMANDS; i++) {
                Keyword keyword = readKeyword();
                if (keyword == null || !readArguments(keyword.shape, arguments[i])) {
                    return false;
                }
                keywords[i] = keyword;
                count = i + 1;
                if (position == input.length()) {
                    return true;
                }
                if (!take(';')) {
                    return false;
                }
            }
            return false;
        }

        private Keyword readKeyword() {
            int longest = 0;
            for (Keyword keyword : KEYWORDS) {
                int matched = countMatching(keyword.word);
                if (matched == keyword.word.length()) {
                    position += matched;
                    return keyword;
                }
                longest = Math.max(longest, matched);
            }
            position += longest;
            return null;
        }

        private int countMatching(String word) {
            int matched = 0;
            while (matched < word.length() && isAt(position + matched, word.charAt(matched))) {
                matched++;
            }
            return matched;
        }

        private boolean readArguments(String shape, int[] row) {
            int filled = 0;
            for (int i = 0; i < shape.length(); i++) {
                char kind = shape.charAt(i);
                if (kind == ' ') {
                    if (!take(' ')) {
                        return false;
                    }
                } else {
                    if (!readValue(kind) || filled >= row.length) {
                        return false;
                    }
                    row[filled] = value;
                    filled++;
                }
            }
            return true;
        }

        private boolean readValue(char kind) {
            boolean negative = kind == 'a' && take('-');
            int most = kind == 'n' ? MOST_DIGITS : 1;
            int digits = 0;
            value = 0;
            while (digits < most && isDigitAt(position)) {
                value = value * 10 + (input.charAt(position) - '0');
                position++;
                digits++;
            }
            if (negative) {
                value = -value;
            }
            return digits > 0;
        }

        private boolean take(char wanted) {
            boolean taken = isAt(position, wanted);
            if (taken) {
                position++;
            }
            return taken;
        }

        private boolean isAt(int index, char wanted) {
            return index < input.length() && input.charAt(index) == wanted;
        }

        private boolean isDigitAt(int index) {
            return index < input.length() && input.charAt(index) >= '0' && input.charAt(index) <= '9';
        }
    }
}
