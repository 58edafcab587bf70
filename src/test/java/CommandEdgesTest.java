/**
 * The sentences of 'Commands' and of promises 58 to 61 that name a boundary, each with a test of its own that stands
 * below the sentence. What is refused outside programs, and that it changes nothing, is in RefusalTest.
 */
public final class CommandEdgesTest {
    private static final Check CHECK = new Check("CommandEdgesTest");
    private static final String SIGNS = signsFromBlankToTilde();
    private static final String SIGNS_OF_PROGRAMS = "abcdefghijklmnopqrstuvwxyz0123456789 ;-";

    /** A program of one command, the length of its shortest part that is a program, and the call it stands for. */
    private static final class Command {
        final String text;
        final int shortest;
        final Call call;

        Command(String text, int shortest, Call call) {
            this.text = text;
            this.shortest = shortest;
            this.call = call;
        }
    }

    private interface Call {
        void on(BallastControl ship);
    }

    /** Each kind of command with its least and its greatest arguments that Ships.rich() allows. */
    private static final Command[] COMMANDS = {
        new Command("tank -9 10", 9, s -> s.addCompartment(-9, 10)),
        new Command("tank 9 200", 8, s -> s.addCompartment(9, 200)),
        new Command("tank -0 010", 9, s -> s.addCompartment(0, 10)),
        new Command("load 0 1", 8, s -> s.load(0, 1)),
        new Command("load 2 050", 8, s -> s.load(2, 50)),
        new Command("unload 0", 8, s -> s.unload(0)),
        new Command("unload 002", 8, s -> s.unload(2)),
        new Command("shift 0 2", 9, s -> s.shift(0, 2)),
        new Command("shift 002 0", 11, s -> s.shift(2, 0)),
        new Command("leak 0 20", 8, s -> s.setLeak(0, 20)),
        new Command("leak 1 0", 8, s -> s.setLeak(1, 0)),
        new Command("pump 2 20", 8, s -> s.setPump(2, 20)),
        new Command("pump 1 000", 8, s -> s.setPump(1, 0)),
        new Command("move 1 0 49", 10, s -> s.transfer(1, 0, 49)),
        new Command("move 2 1 001", 10, s -> s.transfer(2, 1, 1)),
        new Command("power 0", 7, s -> s.setPower(0)),
        new Command("power 8", 7, s -> s.setPower(8)),
        new Command("storm 8 1", 9, s -> s.schedule(8, 1)),
        new Command("storm 999 9", 11, s -> s.schedule(999, 9)),
        new Command("minutes 1", 9, s -> s.pass(1)),
        new Command("minutes 120", 9, s -> s.pass(120)),
    };

    public static void main(String[] args) {
        bufferHoldsSixtyCharacters();
        charactersFromBlankToTilde();
        commandsCorrespondToMethods();
        argumentsInTheSameOrder();
        numbersOfOneToThreeDigits();
        minusOnlyBeforeAnArm();
        semicolonsBetweenCommands();
        signsOfNoProgram();
        keywordsLetterByLetter();
        properPrefixes();
        prefixesAfterOtherCommands();
        errorsAtTheEndsOfTheBuffer();
        oneToSevenCommands();
        allOrNone();
        laterCommandsSeeEarlierOnes();
        limitsReachedWithinAProgram();
        bufferIsEmptyAfterwards();
        malformedLeavesTheRest();
        failedLeavesTheRest();
        errorPositionOfTheLatest();
        failedCommandOfTheLatest();
        CHECK.end();
    }

    private static String signsFromBlankToTilde() {
        StringBuilder signs = new StringBuilder();
        for (char c = ' '; c <= '~'; c++) {
            signs.append(c);
        }
        return signs.toString();
    }

    private static void malformedAt(int position, String program) {
        BallastControl ship = new BallastControl();
        CHECK.refused("run of '" + program + "'", Check.ARGUMENT, () -> Check.run(ship, program));
        CHECK.due("error position of '" + program + "'", ship.errorPosition(), position);
    }

    /** "The input buffer holds up to 60 characters." and "Returns the number of characters in the buffer." */
    private static void bufferHoldsSixtyCharacters() {
        BallastControl ship = new BallastControl();
        for (int i = 1; i <= 60; i++) {
            CHECK.due("append", ship.append(Ships.SIXTY.charAt(i - 1)), i);
        }
        CHECK.refused("the 61st", Check.STATE, () -> ship.append('r'));
        CHECK.refused("the 61st once more", Check.STATE, () -> ship.append(' '));
        CHECK.refused("run", Check.ARGUMENT, () -> ship.run());
        CHECK.due("what was refused is not in it", ship.errorPosition(), 60);
        CHECK.due("the first again", ship.append('r'), 1);
    }

    /** "Throws IllegalArgumentException if the character is not in the range from ' ' to '~'". */
    private static void charactersFromBlankToTilde() {
        BallastControl ship = new BallastControl();
        int accepted = 0;
        int refused = 0;
        for (int c = 0; c <= Character.MAX_VALUE; c++) {
            if (accepted % 60 == 59) {
                CHECK.refused("run of no program", Check.ARGUMENT, () -> ship.run());
            }
            try {
                ship.append((char) c);
                CHECK.due("the character " + c + " is in the range", c >= 32 && c <= 126, true);
                accepted++;
            } catch (IllegalArgumentException e) {
                refused++;
            }
        }
        CHECK.due("accepted ones", accepted, 95);
        CHECK.due("refused ones", refused, 65536 - 95);
    }

    /** "The commands correspond to the methods": each does what its method does, and nothing else. */
    private static void commandsCorrespondToMethods() {
        for (Command command : COMMANDS) {
            BallastControl called = Ships.richWithEmptyBuffer();
            command.call.on(called);
            BallastControl ran = Ships.richWithEmptyBuffer();
            CHECK.due("run of '" + command.text + "'", Check.run(ran, command.text), 1);
            CHECK.due("everything after '" + command.text + "'", Everything.of(ran), Everything.of(called));
        }
    }

    /** "with the arguments in the same order". */
    private static void argumentsInTheSameOrder() {
        BallastControl ship = Check.shipWithArms(1, 2, 3, 4);
        Check.run(ship, "tank 9 011;load 2 3;load 1 4;shift 1 3;leak 3 2;pump 2 7");
        CHECK.due("tank", ship.arm(4) + " " + ship.capacity(4), "9 11");
        CHECK.due("load", ship.weightOf(0) + " " + ship.compartmentOf(0), "3 2");
        CHECK.due("shift", ship.weightOf(1) + " " + ship.compartmentOf(1), "4 3");
        CHECK.due("leak", ship.leak(3) + " " + ship.leak(2), "2 0");
        CHECK.due("pump", Everything.pumpOf(ship, 2) + " " + Everything.pumpOf(ship, 3), "7 5");
        Check.run(ship, "storm 7 3;pump 3 0;minutes 6;move 3 1 5");
        CHECK.due("storm", ship.strengthAt(7), 3);
        CHECK.due("minutes and move", ship.water(3) + " " + ship.water(1), "7 5");
    }

    /** "number = digit | digit digit | digit digit digit". */
    private static void numbersOfOneToThreeDigits() {
        for (String number : new String[] {"7", "07", "007", "77", "077", "120"}) {
            BallastControl ship = new BallastControl();
            Check.run(ship, "minutes " + number);
            CHECK.due("minutes " + number, ship.minute(), Integer.parseInt(number));
        }
        malformedAt(8, "minutes ");
        malformedAt(11, "minutes 0007");
        malformedAt(11, "minutes 1200");
        malformedAt(10, "tank 1 0100");
        malformedAt(10, "load 0 0001");
        malformedAt(10, "unload 0000");
        malformedAt(9, "shift 0000 1");
        malformedAt(10, "leak 0 0000");
        malformedAt(10, "pump 0 0000");
        malformedAt(12, "move 0 1 0001");
        malformedAt(9, "storm 0001 1");
        String[] oneDigit = {"tank 10 50", "load 10 5", "leak 10 5", "pump 10 5", "move 10 0 5", "power 10"};
        for (String program : oneDigit) {
            malformedAt(program.indexOf('1') + 1, program);
        }
        malformedAt(9, "shift 0 10");
        malformedAt(8, "move 0 10 5");
        malformedAt(9, "storm 5 10");
    }

    /** "tank " [ "-" ] digit: no other argument has a minus, and this one has at most one. */
    private static void minusOnlyBeforeAnArm() {
        BallastControl ship = new BallastControl();
        CHECK.due("with and without", Check.run(ship, "tank -9 10;tank 9 10;tank -0 10"), 3);
        CHECK.due("the arms", ship.arm(0) + " " + ship.arm(1) + " " + ship.arm(2), "-9 9 0");
        String[] programs = {
            "tank 1 -10", "load -1 1", "load 0 -1", "unload -1", "shift -1 1", "shift 1 -1", "leak -1 1", "leak 0 -1",
            "pump -1 1", "pump 0 -1", "move -1 0 1", "move 0 -1 1", "move 0 1 -1", "power -1", "storm -1 1",
            "storm 1 -1", "minutes -1", "-power 1", "power- 1"};
        for (String program : programs) {
            malformedAt(program.indexOf('-'), program);
        }
        malformedAt(6, "tank --1 10");
        malformedAt(6, "tank -");
        malformedAt(6, "tank - 1 10");
        malformedAt(6, "tank 1- 10");
    }

    /** "program = command { ";" command }": one between two commands, none before the first and after the last. */
    private static void semicolonsBetweenCommands() {
        CHECK.due("between two", Check.run(new BallastControl(), "power 1;power 2"), 2);
        malformedAt(0, ";power 1");
        malformedAt(8, "power 1;");
        malformedAt(8, "power 1;;power 2");
        malformedAt(7, "power 1 power 2");
        malformedAt(7, "power 1power 2");
        malformedAt(7, "power 1 ;power 2");
        malformedAt(8, "power 1; power 2");
        malformedAt(9, "minutes 1 ");
        malformedAt(0, " minutes 1");
    }

    /** "the index of the first character that no valid program can have there": a sign that no program has at all. */
    private static void signsOfNoProgram() {
        for (char sign : SIGNS.toCharArray()) {
            if (SIGNS_OF_PROGRAMS.indexOf(sign) < 0) {
                for (Command command : COMMANDS) {
                    for (int i = 0; i < command.text.length(); i++) {
                        malformedAt(i, command.text.substring(0, i) + sign + command.text.substring(i + 1));
                    }
                    malformedAt(command.text.length(), command.text + sign);
                }
            }
        }
    }

    /** "Keywords are matched letter by letter." */
    private static void keywordsLetterByLetter() {
        for (Command command : COMMANDS) {
            int blank = command.text.indexOf(' ');
            for (int i = 0; i <= blank; i++) {
                String before = command.text.substring(0, i);
                for (char sign : SIGNS.toCharArray()) {
                    if (lettersAfter(before).indexOf(sign) < 0) {
                        malformedAt(i, before + sign + command.text.substring(i + 1));
                    }
                }
            }
        }
    }

    /** What can stand after the beginning of a keyword. */
    private static String lettersAfter(String before) {
        switch (before) {
            case "":
                return "tluspm";
            case "l":
                return "oe";
            case "s":
                return "ht";
            case "p":
                return "uo";
            case "m":
                return "oi";
            default:
                for (Command command : COMMANDS) {
                    if (command.text.startsWith(before)) {
                        return command.text.substring(before.length(), before.length() + 1);
                    }
                }
                return "";
        }
    }

    /** "or the length of the program if it is a proper prefix of a valid program". */
    private static void properPrefixes() {
        malformedAt(0, "");
        for (Command command : COMMANDS) {
            for (int length = 1; length <= command.text.length(); length++) {
                String program = command.text.substring(0, length);
                if (length < command.shortest) {
                    malformedAt(length, program);
                } else {
                    wellFormed(program);
                }
            }
        }
    }

    /** A program that is not malformed is executed or fails at a command, and no error position is stored. */
    private static void wellFormed(String program) {
        BallastControl ship = new BallastControl();
        Check.type(ship, program);
        try {
            ship.run();
        } catch (IllegalStateException e) {
            CHECK.due("the failed command of '" + program + "'", ship.failedCommand(), 0);
        }
        CHECK.refused("the error position of '" + program + "'", Check.ELEMENT, () -> ship.errorPosition());
    }

    /** The same sentences for a command that stands after another one. */
    private static void prefixesAfterOtherCommands() {
        for (Command command : COMMANDS) {
            String before = "storm 1 1;move 9 9 999;";
            int start = before.length();
            malformedAt(start, before);
            for (int length = 1; length < command.shortest; length++) {
                malformedAt(start + length, before + command.text.substring(0, length));
                malformedAt(start + length, before + command.text.substring(0, length) + '~');
            }
        }
    }

    /** The same sentences with a full buffer: the grammar has no end where the buffer has one. */
    private static void errorsAtTheEndsOfTheBuffer() {
        malformedAt(60, Ships.SIXTY);
        malformedAt(59, Ships.SIXTY.substring(0, 59));
        malformedAt(59, Ships.SIXTY.substring(0, 59) + 'r');
        malformedAt(0, 'P' + Ships.SIXTY.substring(1));
        malformedAt(60, "tank -9 200;tank -9 200;tank -9 200;tank -9 200;tank -9 200;");
        malformedAt(60, "tank -9 200;tank -9 200;tank -9 200;tank -9 200;tank 9 200;m");
        String sixty = "tank 1 050;load 0 1;leak 0 1;pump 0 9;power 3;unload 0;tank 2 50".substring(0, 60);
        malformedAt(60, sixty);
        BallastControl ship = new BallastControl();
        String whole = "tank 1 050;load 0 1;leak 0 1;pump 0 9;power 3;tank -2 050;x";
        CHECK.due("its length", whole.length(), 59);
        CHECK.refused("its last sign", Check.ARGUMENT, () -> Check.run(ship, whole));
        CHECK.due("its last sign", ship.errorPosition(), 58);
        String program = "tank 1 50;tank 2 050;load 0 1;shift 0 1;minutes 1;minutes 10";
        CHECK.due("sixty signs", program.length(), 60);
        CHECK.due("a program of sixty signs", Check.run(ship, program), 6);
        CHECK.due("all of it", ship.minute(), 11);
    }

    /** "Returns the number of commands.": from one to the seven for which there is room. */
    private static void oneToSevenCommands() {
        StringBuilder program = new StringBuilder("power 1");
        for (int count = 1; count <= 7; count++) {
            BallastControl ship = new BallastControl();
            CHECK.due("the number of commands", Check.run(ship, program.toString()), count);
            CHECK.due("the last one holds", ship.setPower(0), count);
            program.append(";power ").append(count + 1);
        }
    }

    /** "Either all commands are executed or none.": whichever of them fails. */
    private static void allOrNone() {
        String before = Everything.of(Ships.richWithEmptyBuffer());
        String[] good = {"unload 2", "load 0 1", "minutes 2", "leak 0 9", "power 0", "power 1"};
        for (int bad = 0; bad < 7; bad++) {
            StringBuilder program = new StringBuilder();
            for (int i = 0; i < bad; i++) {
                program.append(good[i]).append(';');
            }
            program.append("power 9");
            BallastControl ship = Ships.richWithEmptyBuffer();
            CHECK.refused(program.toString(), Check.STATE, () -> Check.run(ship, program.toString()));
            CHECK.due("failedCommand", ship.failedCommand(), bad);
            CHECK.due("everything after " + program, Everything.of(ship), before.replace("failed 1", "failed " + bad));
        }
    }

    /** "Parses the contents of the input buffer as a program and executes it.": one command after the other. */
    private static void laterCommandsSeeEarlierOnes() {
        BallastControl ship = new BallastControl();
        CHECK.due("all succeed in this order", Check.run(ship, "tank 5 20;load 0 9;tank 1 20;shift 0 1;unload 0"), 5);
        CHECK.refused("none does in the other", Check.STATE, () -> Check.run(ship, "unload 1;load 0 9"));
        CHECK.due("failedCommand", ship.failedCommand(), 0);
        CHECK.refused("twice the same storm", Check.STATE, () -> Check.run(ship, "storm 5 1;storm 5 1"));
        CHECK.due("failedCommand", ship.failedCommand(), 1);
        CHECK.due("the same minute after it", Check.run(ship, "storm 5 1;minutes 5;storm 6 1"), 3);
        CHECK.refused("a minute that has passed", Check.STATE, () -> Check.run(ship, "minutes 2;storm 7 1"));
        BallastControl heavy = Ships.heavy();
        CHECK.refused("minutes after it has sunk", Check.STATE,
                () -> Check.run(heavy, "power 0;leak 4 20;minutes 120;minutes 1"));
        CHECK.due("failedCommand", heavy.failedCommand(), 3);
        CHECK.due("afloat, as before", heavy.isAfloat(), true);
        CHECK.due("minutes until it sinks", Check.run(heavy, "power 0;leak 4 20;minutes 120"), 3);
        CHECK.due("sunk", heavy.isAfloat(), false);
    }

    /** "if the method of a command throws an exception": also for what the commands before it have done. */
    private static void limitsReachedWithinAProgram() {
        BallastControl tanks = Check.shipWithArms(1, 2, 3, 4, 5, 6);
        CHECK.refused("a ninth compartment", Check.STATE, () -> Check.run(tanks, "tank 7 10;tank 8 10;tank 9 10"));
        CHECK.due("the third fails", tanks.failedCommand() + " " + tanks.compartmentCount(), "2 6");
        CHECK.due("eight compartments", Check.run(tanks, "tank 7 10;tank 8 10") + " " + tanks.arm(7), "2 8");
        BallastControl pieces = Check.shipWithArms(1);
        for (int i = 0; i < 14; i++) {
            pieces.load(0, 1);
        }
        CHECK.refused("a seventeenth piece", Check.STATE, () -> Check.run(pieces, "load 0 1;load 0 1;load 0 1"));
        CHECK.due("the third fails", pieces.failedCommand() + " " + pieces.pieceCount(), "2 14");
        CHECK.due("sixteen pieces", Check.run(pieces, "load 0 1;load 0 1;unload 0;load 0 1"), 4);
        BallastControl heavy = Ships.heavy();
        CHECK.refused("901 tonnes", Check.STATE, () -> Check.run(heavy, "unload 0;load 0 49;load 1 2"));
        CHECK.due("the third fails", heavy.failedCommand() + " " + heavy.weight(), "2 900");
        CHECK.due("900 tonnes", Check.run(heavy, "unload 0;load 0 49;load 1 1"), 3);
        BallastControl storms = new BallastControl();
        CHECK.refused("twice the same minute", Check.STATE, () -> Check.run(storms,
                "storm 1 1;storm 2 1;storm 3 1;storm 4 1;storm 5 1;storm 5 1"));
        CHECK.due("the sixth fails", storms.failedCommand() + " " + storms.stormCount(), "5 0");
        storms.schedule(9, 1);
        storms.schedule(8, 1);
        CHECK.refused("a seventh storm", Check.STATE, () -> Check.run(storms,
                "storm 1 1;storm 2 1;storm 3 1;storm 4 1;storm 5 1"));
        CHECK.due("the fifth fails", storms.failedCommand() + " " + storms.stormCount(), "4 2");
        CHECK.due("six storms", Check.run(storms, "storm 1 1;storm 2 1;storm 3 1;storm 4 1") + storms.stormCount(), 10);
    }

    /** "The buffer is empty afterwards, even if an exception is thrown." */
    private static void bufferIsEmptyAfterwards() {
        String[] programs = {"power 1", "power x", "power 9", "", "power 1;powe", Ships.SIXTY};
        for (String program : programs) {
            BallastControl ship = new BallastControl();
            Check.type(ship, program);
            try {
                ship.run();
            } catch (IllegalArgumentException | IllegalStateException e) {
                CHECK.due("only these throw", program.equals("power 1"), false);
            }
            CHECK.due("append after '" + program + "'", ship.append('p'), 1);
            Check.type(ship, "ower 7");
            CHECK.due("run after '" + program + "'", ship.run(), 1);
            CHECK.refused("run of the empty buffer", Check.ARGUMENT, () -> ship.run());
            CHECK.due("its error position", ship.errorPosition(), 0);
        }
    }

    /** "the program is malformed; the error position is stored", and everything else is unchanged. */
    private static void malformedLeavesTheRest() {
        String before = Everything.of(Ships.richWithEmptyBuffer());
        for (String program : new String[] {"", "power 1;unload 0;minutes 5;unload", "tank 1 50;x", Ships.SIXTY}) {
            BallastControl ship = Ships.richWithEmptyBuffer();
            CHECK.refused(program, Check.ARGUMENT, () -> Check.run(ship, program));
            int error = ship.errorPosition();
            CHECK.due("everything after '" + program + "'", Everything.of(ship),
                    before.replaceFirst("error 3,", "error " + error + ","));
        }
    }

    /** "the index of this command, starting at 0, is stored", and everything else is unchanged. */
    private static void failedLeavesTheRest() {
        String before = Everything.of(Ships.richWithEmptyBuffer());
        String[] programs = {
            "tank 1 9", "load 3 1", "load 0 0", "unload 1", "shift 1 1", "shift 0 3", "shift 0 0", "leak 3 1",
            "leak 0 21", "pump 3 1", "pump 0 21", "move 1 3 1", "move 1 0 0", "move 1 1 1", "power 9", "storm 7 1",
            "storm 8 0", "storm 12 1", "minutes 0", "minutes 121"};
        for (String program : programs) {
            for (String first : new String[] {"", "minutes 3;", "unload 0;load 0 7;"}) {
                BallastControl ship = Ships.richWithEmptyBuffer();
                CHECK.refused(first + program, Check.STATE, () -> Check.run(ship, first + program));
                int failed = first.length() - first.replace(";", "").length();
                CHECK.due("everything after '" + first + program + "'", Everything.of(ship),
                        before.replace("failed 1", "failed " + failed));
            }
        }
    }

    /** "Throws NoSuchElementException if no program was malformed so far" and "of the latest malformed program". */
    private static void errorPositionOfTheLatest() {
        BallastControl ship = new BallastControl();
        CHECK.refused("none at first", Check.ELEMENT, () -> ship.errorPosition());
        Check.run(ship, "power 1");
        CHECK.refused("none after a program", Check.ELEMENT, () -> ship.errorPosition());
        CHECK.refused("a failing program", Check.STATE, () -> Check.run(ship, "power 9"));
        CHECK.refused("none after a failing one", Check.ELEMENT, () -> ship.errorPosition());
        for (int i = 0; i <= 6; i++) {
            String program = "power 1".substring(0, i);
            CHECK.refused("'" + program + "'", Check.ARGUMENT, () -> Check.run(ship, program));
            CHECK.due("the latest", ship.errorPosition(), i);
        }
        Check.run(ship, "power 1");
        CHECK.due("after a program", ship.errorPosition(), 6);
        CHECK.refused("a failing program", Check.STATE, () -> Check.run(ship, "power 1;power 9"));
        CHECK.due("after a failing one", ship.errorPosition(), 6);
    }

    /** "Throws NoSuchElementException if no command failed so far" and "of the latest command that failed". */
    private static void failedCommandOfTheLatest() {
        BallastControl ship = new BallastControl();
        CHECK.refused("none at first", Check.ELEMENT, () -> ship.failedCommand());
        Check.run(ship, "power 1");
        CHECK.refused("none after a program", Check.ELEMENT, () -> ship.failedCommand());
        CHECK.refused("a malformed program", Check.ARGUMENT, () -> Check.run(ship, "power 9;power"));
        CHECK.refused("none after a malformed one", Check.ELEMENT, () -> ship.failedCommand());
        CHECK.refused("none by a method", Check.ARGUMENT, () -> ship.setPower(9));
        CHECK.refused("none after a method", Check.ELEMENT, () -> ship.failedCommand());
        for (int i = 6; i >= 0; i--) {
            String program = "power 1;".repeat(i) + "power 9";
            CHECK.refused(program, Check.STATE, () -> Check.run(ship, program));
            CHECK.due("the latest", ship.failedCommand(), i);
        }
        CHECK.refused("the second of two that fail", Check.STATE, () -> Check.run(ship, "power 8;power 9;unload 0"));
        CHECK.due("the first that fails", ship.failedCommand(), 1);
        Check.run(ship, "power 1");
        CHECK.refused("a malformed program", Check.ARGUMENT, () -> Check.run(ship, "power"));
        CHECK.due("after a malformed one", ship.failedCommand(), 1);
    }
}
