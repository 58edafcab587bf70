import java.util.ArrayDeque;
import java.util.ArrayList;
import java.util.Comparator;
import java.util.Deque;
import java.util.List;
import java.util.NoSuchElementException;
import java.util.TreeMap;
import java.util.function.IntSupplier;
import java.util.regex.Matcher;
import java.util.regex.Pattern;

/**
 * The document once more, written for shortness with lists, maps, streams and regular expressions, so that it shares
 * no way of working with the class that it is compared with.
 */
public final class Model {
    private static final Pattern PROGRAM = Pattern.compile("(?:C)(?:;(?:C))*".replace("C",
            "tank -?\\d N|load \\d N|unload N|shift N \\d|leak \\d N|pump \\d N|move \\d \\d N|power \\d|storm N \\d"
            + "|minutes N").replace("N", "\\d{1,3}"));

    private static final class Tank {
        int number;
        int arm;
        int capacity;
        int water;
        int leak;
        int pump = 5;
    }

    private static final class Piece {
        int id;
        int weight;
        int place;
    }

    private static final class State {
        List<Tank> tanks = new ArrayList<>();
        TreeMap<Integer, Piece> pieces = new TreeMap<>();
        TreeMap<Integer, Integer> storms = new TreeMap<>();
        List<Integer> log = new ArrayList<>();
        int nextId;
        int minute;
        int power = 2;
        int limit = 5;
        boolean sunk;
        long pumped;

        State copy() {
            State s = new State();
            for (Tank t : tanks) {
                Tank n = new Tank();
                n.number = t.number;
                n.arm = t.arm;
                n.capacity = t.capacity;
                n.water = t.water;
                n.leak = t.leak;
                n.pump = t.pump;
                s.tanks.add(n);
            }
            for (Piece p : pieces.values()) {
                Piece n = new Piece();
                n.id = p.id;
                n.weight = p.weight;
                n.place = p.place;
                s.pieces.put(n.id, n);
            }
            s.storms.putAll(storms);
            s.log.addAll(log);
            s.nextId = nextId;
            s.minute = minute;
            s.power = power;
            s.limit = limit;
            s.sunk = sunk;
            s.pumped = pumped;
            return s;
        }

        int load(Tank t) {
            return t.water + pieces.values().stream().filter(p -> p.place == t.number).mapToInt(p -> p.weight).sum();
        }

        int weight() {
            return tanks.stream().mapToInt(this::load).sum();
        }

        int moment() {
            return tanks.stream().mapToInt(t -> load(t) * t.arm).sum();
        }

        boolean balanced() {
            return Math.abs(moment() / (weight() + 100)) <= limit;
        }

        List<Tank> pumps() {
            return tanks.stream().filter(t -> t.pump > 0 && t.water > 0)
                    .sorted(Comparator.comparing((Tank t) -> -t.water).thenComparing(t -> t.number)).toList();
        }

        void oneMinute() {
            minute++;
            Integer strength = storms.remove(minute);
            if (strength != null) {
                tanks.stream().min(Comparator.comparing((Tank t) -> -load(t)).thenComparing(t -> t.number))
                        .ifPresent(t -> t.leak = Math.min(20, t.leak + strength));
                log.add(0, minute);
            }
            tanks.forEach(t -> t.water = Math.min(t.capacity, t.water + t.leak));
            pumps().stream().limit(power).forEach(t -> {
                int rest = Math.max(0, t.water - t.pump);
                pumped += t.water - rest;
                t.water = rest;
            });
            sunk |= weight() > 900;
        }

        /** The moves that the transfer of an amount, or the shift of a piece, can be: first, second, moment. */
        int[] best(List<int[]> moves) {
            return moves.stream().min(Comparator.comparing((int[] m) -> Math.abs(m[2])).thenComparing(m -> m[0])
                    .thenComparing(m -> m[1])).orElseThrow(NoSuchElementException::new);
        }

        boolean possible(Tank a, Tank b, int amount) {
            return a != b && a.water >= amount && b.water + amount <= b.capacity;
        }

        int[] bestTransfer(int amount) {
            List<int[]> moves = new ArrayList<>();
            for (Tank a : tanks) {
                for (Tank b : tanks) {
                    if (possible(a, b, amount)) {
                        State s = copy();
                        s.tanks.get(a.number).water -= amount;
                        s.tanks.get(b.number).water += amount;
                        moves.add(new int[] {a.number, b.number, s.moment()});
                    }
                }
            }
            return best(moves);
        }

        int[] bestShift() {
            List<int[]> moves = new ArrayList<>();
            for (Piece p : pieces.values()) {
                for (Tank t : tanks) {
                    if (p.place != t.number) {
                        State s = copy();
                        s.pieces.get(p.id).place = t.number;
                        moves.add(new int[] {p.id, t.number, s.moment()});
                    }
                }
            }
            return best(moves);
        }
    }

    private State now = new State();
    private State saved;
    private final Deque<State> history = new ArrayDeque<>();
    private String input = "";
    private String line = "";
    private Integer error;
    private Integer failed;

    private static void argument(boolean good) {
        if (!good) {
            throw new IllegalArgumentException();
        }
    }

    private static void state(boolean good) {
        if (!good) {
            throw new IllegalStateException();
        }
    }

    private static <T> T element(T found) {
        if (found == null) {
            throw new NoSuchElementException();
        }
        return found;
    }

    private static boolean in(int value, int least, int greatest) {
        return least <= value && value <= greatest;
    }

    private Tank tank(int number) {
        if (!in(number, 0, now.tanks.size() - 1)) {
            throw new IndexOutOfBoundsException();
        }
        return now.tanks.get(number);
    }

    /** A change that throws leaves the history, and the ship, as they were. */
    private int change(IntSupplier change) {
        State before = now.copy();
        try {
            int answer = change.getAsInt();
            history.push(before);
            if (history.size() > 8) {
                history.removeLast();
            }
            return answer;
        } catch (RuntimeException e) {
            now = before;
            throw e;
        }
    }

    public int addCompartment(int arm, int capacity) {
        return change(() -> {
            argument(in(arm, -9, 9) && in(capacity, 10, 200));
            state(now.tanks.size() < 8);
            Tank t = new Tank();
            t.number = now.tanks.size();
            t.arm = arm;
            t.capacity = capacity;
            now.tanks.add(t);
            return t.number;
        });
    }

    public int load(int compartment, int weight) {
        return change(() -> {
            tank(compartment);
            argument(in(weight, 1, 50));
            state(now.pieces.size() < 16 && now.weight() + weight <= 900);
            Piece p = new Piece();
            p.id = now.nextId++;
            p.weight = weight;
            p.place = compartment;
            now.pieces.put(p.id, p);
            return p.id;
        });
    }

    public int unload(int id) {
        return change(() -> element(now.pieces.remove(id)).weight);
    }

    public int shift(int id, int compartment) {
        return change(() -> {
            Piece p = element(now.pieces.get(id));
            tank(compartment);
            state(p.place != compartment);
            int previous = p.place;
            p.place = compartment;
            return previous;
        });
    }

    public int setLeak(int compartment, int rate) {
        return change(() -> {
            Tank t = tank(compartment);
            argument(in(rate, 0, 20));
            int previous = t.leak;
            t.leak = rate;
            return previous;
        });
    }

    public int setPump(int compartment, int rate) {
        return change(() -> {
            Tank t = tank(compartment);
            argument(in(rate, 0, 20));
            int previous = t.pump;
            t.pump = rate;
            return previous;
        });
    }

    public int transfer(int source, int target, int amount) {
        return change(() -> {
            Tank a = tank(source);
            Tank b = tank(target);
            argument(in(amount, 1, 200));
            state(now.possible(a, b, amount));
            a.water -= amount;
            b.water += amount;
            return now.moment();
        });
    }

    public int balance(int amount) {
        return change(() -> {
            argument(in(amount, 1, 200));
            int[] best = null;
            try {
                best = now.bestTransfer(amount);
            } catch (NoSuchElementException e) {
                state(false);
            }
            state(Math.abs(best[2]) < Math.abs(now.moment()));
            now.tanks.get(best[0]).water -= amount;
            now.tanks.get(best[1]).water += amount;
            return now.moment();
        });
    }

    public int setPower(int pumps) {
        return change(() -> {
            argument(in(pumps, 0, 8));
            int previous = now.power;
            now.power = pumps;
            return previous;
        });
    }

    public int setLimit(int limit) {
        return change(() -> {
            argument(in(limit, 1, 9));
            int previous = now.limit;
            now.limit = limit;
            return previous;
        });
    }

    public int schedule(int minute, int strength) {
        return change(() -> {
            argument(minute > now.minute && (long) minute - now.minute <= 999 && in(strength, 1, 9));
            state(!now.storms.containsKey(minute) && now.storms.size() < 6);
            now.storms.put(minute, strength);
            return now.storms.size();
        });
    }

    public int cancelStorm(int minute) {
        return change(() -> element(now.storms.remove(minute)));
    }

    public int pass(int minutes) {
        return change(() -> {
            argument(in(minutes, 1, 120));
            state(!now.sunk);
            int start = now.minute;
            for (int i = 0; i < minutes && !now.sunk; i++) {
                now.oneMinute();
            }
            return now.minute - start;
        });
    }

    public int minute() { return now.minute; }

    public int compartmentCount() { return now.tanks.size(); }

    public int arm(int compartment) { return tank(compartment).arm; }

    public int capacity(int compartment) { return tank(compartment).capacity; }

    public int water(int compartment) { return tank(compartment).water; }

    public int leak(int compartment) { return tank(compartment).leak; }

    public int loadOf(int compartment) { return now.load(tank(compartment)); }

    public boolean wouldPump(int compartment) {
        Tank t = tank(compartment);
        return now.pumps().stream().limit(now.power).anyMatch(p -> p == t);
    }

    public int pumpAt(int rank) {
        element(in(rank, 0, now.pumps().size() - 1) ? "a rank" : null);
        return now.pumps().get(rank).number;
    }

    public int minutesUntilFull(int compartment) {
        Tank t = tank(compartment);
        element(t.water == t.capacity || t.leak > 0 ? "at some time" : null);
        int minutes = 0;
        for (int w = t.water; w < t.capacity; w += t.leak) {
            minutes++;
        }
        return minutes;
    }

    public int pieceCount() { return now.pieces.size(); }

    public int idAt(int position) { return new ArrayList<>(now.pieces.keySet()).get(position); }

    public int weightOf(int id) { return element(now.pieces.get(id)).weight; }

    public int compartmentOf(int id) { return element(now.pieces.get(id)).place; }

    public int heaviestPiece() {
        return now.pieces.values().stream().max(Comparator.comparing((Piece p) -> p.weight).thenComparing(p -> -p.id))
                .orElseThrow(NoSuchElementException::new).id;
    }

    public int weight() { return now.weight(); }

    public int weightByParts() { return now.weight(); }

    public int moment() { return now.moment(); }

    public int momentByParts() { return now.moment(); }

    public int trim() { return now.moment() / (now.weight() + 100); }

    public boolean isBalanced() { return now.balanced(); }

    public boolean isAfloat() { return !now.sunk; }

    private int[] bestTransfer(int amount) {
        argument(in(amount, 1, 200));
        return now.bestTransfer(amount);
    }

    public int bestSource(int amount) { return bestTransfer(amount)[0]; }

    public int bestTarget(int amount) { return bestTransfer(amount)[1]; }

    public int bestMoment(int amount) { return bestTransfer(amount)[2]; }

    public int transfersToBalance(int amount) {
        argument(in(amount, 1, 200));
        State s = now.copy();
        int done = 0;
        while (!s.balanced()) {
            int[] best = s.bestTransfer(amount);
            element(Math.abs(best[2]) < Math.abs(s.moment()) ? "smaller" : null);
            s.tanks.get(best[0]).water -= amount;
            s.tanks.get(best[1]).water += amount;
            done++;
        }
        return done;
    }

    public int bestShiftPiece() { return now.bestShift()[0]; }

    public int bestShiftCompartment() { return now.bestShift()[1]; }

    public int momentAfter(int minutes) {
        argument(in(minutes, 0, 120));
        State s = now.copy();
        for (int i = 0; i < minutes && !s.sunk; i++) {
            s.oneMinute();
        }
        return s.moment();
    }

    public int minutesUntilSunk() {
        State s = now.copy();
        for (int i = 0; i < 120 && !s.sunk; i++) {
            s.oneMinute();
        }
        element(s.sunk ? "sunk" : null);
        return s.minute - now.minute;
    }

    public int compartmentByLoad(int rank) {
        element(in(rank, 0, now.tanks.size() - 1) ? "a rank" : null);
        return now.tanks.stream().sorted(Comparator.comparing((Tank t) -> -now.load(t)).thenComparing(t -> -t.water)
                .thenComparing(t -> t.number)).toList().get(rank).number;
    }

    public int stormCount() { return now.storms.size(); }

    public int nextStorm() { return now.storms.firstKey(); }

    public int strengthAt(int minute) { return element(now.storms.get(minute)); }

    public int loggedMinute(int position) {
        element(in(position, 0, Math.min(6, now.log.size()) - 1) ? "a position" : null);
        return now.log.get(position);
    }

    public long pumpedTotal() { return now.pumped; }

    private void someTanks() {
        if (now.tanks.isEmpty()) {
            throw new ArithmeticException();
        }
    }

    public double meanWater() {
        someTanks();
        return now.tanks.stream().mapToInt(t -> t.water).sum() / (double) now.tanks.size();
    }

    public float fillShare() {
        someTanks();
        return now.tanks.stream().mapToInt(t -> t.water).sum() / (float) now.tanks.stream().mapToInt(t -> t.capacity).sum();
    }

    public boolean isConsistent() { return true; }

    public int formatCompartment(int compartment) {
        Tank t = tank(compartment);
        line = String.format("C%d a%d %d/%d +%d%s", t.number, t.arm, t.water, t.capacity, now.load(t) - t.water,
                t.leak > 0 ? " l" + t.leak : "");
        return line.length();
    }

    public int formatCargo(int compartment) {
        tank(compartment);
        line = String.join(",", now.pieces.values().stream().filter(p -> p.place == compartment)
                .map(p -> p.id + "*" + p.weight).toList());
        return line.length();
    }

    public int formatStorms() {
        line = String.join(" ", now.storms.entrySet().stream().map(e -> e.getKey() + "!" + e.getValue()).toList());
        return line.length();
    }

    public char lineChar(int index) {
        return line.toCharArray()[java.util.Objects.checkIndex(index, line.length())];
    }

    public int append(char character) {
        argument(in(character, ' ', '~'));
        state(input.length() < 60);
        input += character;
        return input.length();
    }

    public int run() {
        String program = input;
        input = "";
        if (!isProgram(program)) {
            error = errorIn(program);
            throw new IllegalArgumentException();
        }
        String[] commands = program.split(";");
        Deque<State> changes = new ArrayDeque<>(history);
        State before = now;
        now = now.copy();
        for (int i = 0; i < commands.length; i++) {
            try {
                call(commands[i].split(" "));
            } catch (RuntimeException e) {
                now = before;
                history.clear();
                history.addAll(changes);
                failed = i;
                throw new IllegalStateException();
            }
        }
        State after = now;
        now = before;
        history.clear();
        history.addAll(changes);
        return change(() -> {
            now = after;
            return commands.length;
        });
    }

    static boolean isProgram(String program) {
        return PROGRAM.matcher(program).matches();
    }

    /** The first place up to which the text is no beginning of a program. */
    static int errorIn(String program) {
        for (int i = 0; i < program.length(); i++) {
            Matcher m = PROGRAM.matcher(program.substring(0, i + 1));
            if (!m.matches() && !m.hitEnd()) {
                return i;
            }
        }
        return program.length();
    }

    private int call(String[] words) {
        int a = Integer.parseInt(words[1]);
        int b = words.length > 2 ? Integer.parseInt(words[2]) : 0;
        return switch (words[0]) {
            case "tank" -> addCompartment(a, b);
            case "load" -> load(a, b);
            case "unload" -> unload(a);
            case "shift" -> shift(a, b);
            case "leak" -> setLeak(a, b);
            case "pump" -> setPump(a, b);
            case "move" -> transfer(a, b, Integer.parseInt(words[3]));
            case "power" -> setPower(a);
            case "storm" -> schedule(a, b);
            default -> pass(a);
        };
    }

    public int errorPosition() { return element(error); }

    public int failedCommand() { return element(failed); }

    public int undoableCount() { return history.size(); }

    public int undo() {
        state(!history.isEmpty());
        now = history.pop();
        return history.size();
    }

    public int save() {
        saved = now.copy();
        return saved.tanks.size();
    }

    public int restore() {
        state(saved != null);
        now = saved.copy();
        history.clear();
        return now.tanks.size();
    }
}
