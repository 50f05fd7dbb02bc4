import java.util.Arrays;

/** The edges in the document's Terms: each sentence that names one has a method of its own. */
public final class TermsEdgesTest implements Codes {
    public static void main(String[] args) {
        atMostSixNumbers();
        emptyAtTheBegin();
        inputFromMinus8To7();
        oneToTenInstructions();
        numbersOfNum();
        lessIfXIsLessThanY();
        skipIfNotZero();
        backIfGreaterThanZero();
        trapIfTooFewNumbers();
        trapIfOutOfRange();
        normalEndAtTheNumberOfInstructions();
        normalEndBehindTheNumberOfInstructions();
        tiredAfterForty();
        trapInTheFortieth();
        normalEndAfterTheFortieth();
        outcomeIsTheTopOrEmpty();
        outcomeIsTrapOrTiredWhateverIsOnThePile();
        mutantsOfNum();
        mutantsWithoutRange();
        mutantsOfSkip();
        mutantsOfBack();
        mutantsInstructionByInstruction();
        mutantsHaveOneInstructionReplaced();
        sixDifferentTrialsInTheirOrder();
        killedByAnotherOutcome();
        notKilledByTheSameOutcome();
        equalForEveryInput();
        Checks.end();
    }

    /** "A pile of at most 6 numbers"; a trap if an instruction would "put a seventh number on it". */
    private static void atMostSixNumbers() {
        int[] five = {IN, 0, IN, 0, IN, 0, IN, 0, IN, 0};
        Checks.ends("sixth in", 2, 2, join(five, IN, 0));
        Checks.ends("sixth num", 3, 2, join(five, NUM, 3));
        Checks.ends("sixth dup", 2, 2, join(five, DUP, 0));
        Checks.ends("seventh in", TRAP, 2, join(five, IN, 0, IN, 0));
        Checks.ends("seventh num", TRAP, 2, join(five, IN, 0, NUM, 0));
        Checks.ends("seventh dup", TRAP, 2, join(five, IN, 0, DUP, 0));
        Checks.ends("add with six", 5, 2, join(five, NUM, 3, ADD, 0));
        Checks.ends("sub with six", -1, 2, join(five, NUM, 3, SUB, 0));
        Checks.ends("mul with six", 6, 2, join(five, NUM, 3, MUL, 0));
        Checks.ends("less with six", 1, 2, join(five, NUM, 3, LESS, 0));
        Checks.ends("swap with six", 2, 2, join(five, NUM, 3, SWAP, 0));
        Checks.ends("skip with six makes room", 4, 2, join(five, NUM, 3, SKIP, 0, NUM, 4));
        Checks.ends("back with six makes room", 4, 2, join(five, NUM, 0, BACK, 0, NUM, 4));
        Checks.ends("add with six makes room for one", 4, 2, join(five, NUM, 3, ADD, 0, NUM, 4));
        Checks.ends("and not for two", TRAP, 2, join(five, NUM, 3, ADD, 0, NUM, 4, NUM, 4));
        Checks.ends("the six are kept in their order", 4, 2, NUM, 1, NUM, 2, NUM, 3, NUM, 4, NUM, 5, NUM, 6,
            SUB, 0, SUB, 0, SUB, 0, SUB, 0);
    }

    /** "empty at the begin": of every run, whatever the last one left. */
    private static void emptyAtTheBegin() {
        int[] needTheirNumber = {ADD, SUB, MUL, LESS, DUP, SWAP, SKIP, BACK};
        for (int op : needTheirNumber) {
            Checks.ends("op " + op + " at the begin", TRAP, 1, op, 0);
        }
        MutantRunner x = Checks.program(IN, 0, IN, 0, IN, 0, IN, 0, IN, 0, IN, 0);
        for (int run = 0; run < 3; run++) {
            Checks.due("six numbers, run " + run, x.outcome(5), 5);
            Checks.due("six numbers of a mutant, run " + run, x.outcomeOf(5, 5), 0);
        }
        Checks.write(x, SWAP, 0);
        Checks.due("after numbers that were left", x.outcome(5), TRAP);
        Checks.write(x, IN, 0, BACK, 0);
        Checks.due("a tired run", x.outcome(5), TIRED);
        Checks.due("begins at instruction 0 again", x.outcome(0), EMPTY);
        Checks.write(x, IN, 0, DUP, 0, SKIP, 1, ADD, 0, NUM, 3);
        Checks.due("a run with a trap", x.outcome(0), TRAP);
        Checks.due("begins at instruction 0 again", x.outcome(5), 3);
    }

    /** "the INPUT, a number from -8 to 7" */
    private static void inputFromMinus8To7() {
        MutantRunner x = Checks.program(IN, 0, NUM, 1, ADD, 0);
        Checks.due("outcome(-8)", x.outcome(-8), -7);
        Checks.due("outcome(7)", x.outcome(7), 8);
        Checks.due("outcomeOf(1, -8)", x.outcomeOf(1, -8), -6);
        Checks.due("outcomeOf(1, 7)", x.outcomeOf(1, 7), 9);
        Checks.due("trial(-8)", x.trial(-8), 1);
        Checks.due("trial(7)", x.trial(7), 2);
        for (int input : OUTSIDE) {
            Checks.due("outcome(" + input + ")", x.outcome(input), BAD_ARG);
            Checks.due("outcomeOf(1, " + input + ")", x.outcomeOf(1, input), BAD_ARG);
            Checks.due("trial(" + input + ")", x.trial(input), BAD_ARG);
        }
    }

    /** "A PROGRAM is a list of 1 to 10 INSTRUCTIONS, numbered 0, 1, .." */
    private static void oneToTenInstructions() {
        Checks.ends("one instruction", 5, 1, NUM, 5);
        int[] nine = {IN, 0, NUM, 1, ADD, 0, NUM, 1, ADD, 0, NUM, 1, ADD, 0, NUM, 1, ADD, 0};
        Checks.ends("nine instructions", 6, 2, nine);
        MutantRunner x = Checks.program(join(nine, NUM, -5));
        Checks.due("ten instructions", x.outcome(2), -5);
        Checks.due("an eleventh", x.append(NUM, 3), FULL);
        Checks.due("ten instructions still", x.outcome(2), -5);
    }

    /** "puts n on the pile (n from -8 to 7)" */
    private static void numbersOfNum() {
        Checks.ends("num -8", -8, 1, NUM, -8);
        Checks.ends("num 7", 7, 1, NUM, 7);
        Checks.ends("num 0", 0, 1, NUM, 0);
        MutantRunner x = new MutantRunner();
        for (int n : OUTSIDE) {
            Checks.due("append(0, " + n + ")", x.append(NUM, n), BAD_ARG);
        }
    }

    /** "1 if x < y and 0 if not" */
    private static void lessIfXIsLessThanY() {
        for (int x = -8; x <= 7; x++) {
            for (int y = -8; y <= 7; y++) {
                Checks.ends("less of " + x, x < y ? 1 : 0, y, NUM, x, IN, 0, LESS, 0);
            }
        }
    }

    /** "goes on k instructions further than the next one if the top, which is taken off, is not 0 (k from 0 to 3)" */
    private static void skipIfNotZero() {
        int[] skip1 = {NUM, 6, IN, 0, SKIP, 1, NUM, 5};
        for (int input = -8; input <= 7; input++) {
            Checks.ends("skip 1", input == 0 ? 5 : 6, input, skip1);
        }
        Checks.ends("skip 0, taken", 5, 1, IN, 0, SKIP, 0, NUM, 5);
        Checks.ends("skip 0, not taken", 5, 0, IN, 0, SKIP, 0, NUM, 5);
        Checks.ends("skip 3, taken", 4, 1, IN, 0, SKIP, 3, NUM, 1, NUM, 2, NUM, 3, NUM, 4);
        Checks.ends("skip 3 goes round three", 7, -1, NUM, 7, IN, 0, SKIP, 3, NUM, 1, NUM, 2, NUM, 3);
        Checks.ends("the top is taken off, taken", EMPTY, 1, IN, 0, SKIP, 0);
        Checks.ends("the top is taken off, not taken", EMPTY, 0, IN, 0, SKIP, 0);
        Checks.ends("only the top is taken off", 6, 1, NUM, 6, IN, 0, SKIP, 0);
        MutantRunner x = new MutantRunner();
        int[] outside = {-1, 4, LEAST_INT, GREATEST_INT};
        for (int k : outside) {
            Checks.due("append(8, " + k + ")", x.append(SKIP, k), BAD_ARG);
        }
    }

    /** "goes on at instruction k if the top, which is taken off, is greater than 0 (k from 0 to 9)" */
    private static void backIfGreaterThanZero() {
        int[] back4 = {NUM, 6, IN, 0, BACK, 4, NUM, 5};
        for (int input = -8; input <= 7; input++) {
            Checks.ends("back 4", input > 0 ? 6 : 5, input, back4);
        }
        Checks.ends("back 0", TIRED, 1, IN, 0, BACK, 0);
        Checks.ends("back 9 is the last instruction", 3, 1, IN, 0, BACK, 9, NUM, 0, NUM, 0, NUM, 0, NUM, 0, NUM, 0,
            NUM, 0, NUM, 0, NUM, 3);
        Checks.ends("back 9 leaves six out", 3, 1, NUM, 2, IN, 0, BACK, 9, ADD, 0, ADD, 0, ADD, 0, ADD, 0, ADD, 0,
            ADD, 0, NUM, 3);
        Checks.ends("the top is taken off, taken", EMPTY, 1, IN, 0, BACK, 2);
        Checks.ends("the top is taken off, not taken", EMPTY, 0, IN, 0, BACK, 2);
        Checks.ends("only the top is taken off", 6, 1, NUM, 6, IN, 0, BACK, 3);
        MutantRunner x = new MutantRunner();
        int[] outside = {-1, 10, LEAST_INT, GREATEST_INT};
        for (int k : outside) {
            Checks.due("append(9, " + k + ")", x.append(BACK, k), BAD_ARG);
        }
    }

    /** "It ends with a TRAP if an instruction would need more numbers than the pile has" */
    private static void trapIfTooFewNumbers() {
        int[] needOne = {DUP, SKIP, BACK};
        for (int op : needOne) {
            Checks.ends("op " + op + " with no number", TRAP, 0, op, 0);
            Checks.ends("op " + op + " with one number", 3, 0, IN, 0, op, 0, NUM, 3);
        }
        int[] needTwo = {ADD, SUB, MUL, LESS, SWAP};
        for (int op : needTwo) {
            Checks.ends("op " + op + " with no number", TRAP, 0, op, 0);
            Checks.ends("op " + op + " with one number", TRAP, 0, IN, 0, op, 0);
            Checks.ends("op " + op + " with two numbers", 3, 0, IN, 0, IN, 0, op, 0, NUM, 3);
        }
        Checks.ends("a trap ends the run", TRAP, 1, ADD, 0, IN, 0);
        int[] leaveOne = {ADD, SUB, MUL, LESS};
        for (int op : leaveOne) {
            Checks.ends("op " + op + " leaves one number", TRAP, 1, IN, 0, IN, 0, op, 0, ADD, 0);
        }
        Checks.ends("swap leaves two numbers", 3, 1, IN, 0, NUM, 2, SWAP, 0, ADD, 0);
    }

    /** "or if a number put on would be less than -1000 or greater than 1000" */
    private static void trapIfOutOfRange() {
        afterCube("mul: 1000", 1000, 5);
        afterCube("mul: -1000", -1000, -5);
        int[] times13 = {NUM, 4, NUM, 7, ADD, 0, NUM, 7, MUL, 0, NUM, 6, IN, 0, ADD, 0, MUL, 0};
        Checks.ends("mul: 77 * 13 = 1001", TRAP, 7, times13);
        Checks.ends("mul: 77 * 12 = 924", 924, 6, times13);
        int[] minus77 = {NUM, 4, NUM, 7, ADD, 0, NUM, -7, MUL, 0, NUM, 6, IN, 0, ADD, 0, MUL, 0};
        Checks.ends("mul: -77 * 13 = -1001", TRAP, 7, minus77);
        Checks.ends("mul: -77 * 12 = -924", -924, 6, minus77);
        afterCube("mul: 1000 * 1", 1000, 5, NUM, 1, MUL, 0);
        afterCube("mul: 1000 * -1", -1000, 5, NUM, -1, MUL, 0);
        afterCube("mul: 1000 * 1000", TRAP, 5, DUP, 0, MUL, 0);
        afterCube("mul: -1000 * -1000", TRAP, -5, DUP, 0, MUL, 0);
        afterCube("add: 1000 + 0", 1000, 5, NUM, 0, ADD, 0);
        afterCube("add: 1000 + 1", TRAP, 5, NUM, 1, ADD, 0);
        afterCube("add: -1000 + 0", -1000, -5, NUM, 0, ADD, 0);
        afterCube("add: -1000 + -1", TRAP, -5, NUM, -1, ADD, 0);
        afterCube("add: 1000 + 1000", TRAP, 5, DUP, 0, ADD, 0);
        afterCube("add: -1000 + -1000", TRAP, -5, DUP, 0, ADD, 0);
        afterCube("sub: 1000 - 0", 1000, 5, NUM, 0, SUB, 0);
        afterCube("sub: 1000 - -1", TRAP, 5, NUM, -1, SUB, 0);
        afterCube("sub: -1000 - 0", -1000, -5, NUM, 0, SUB, 0);
        afterCube("sub: -1000 - 1", TRAP, -5, NUM, 1, SUB, 0);
        afterCube("sub: 1000 - 1000", 0, 5, DUP, 0, SUB, 0);
        afterCube("less: 1000 < 7", 0, 5, NUM, 7, LESS, 0);
        afterCube("less: -1000 < -8", 1, -5, NUM, -8, LESS, 0);
        afterCube("dup of 1000", 1000, 5, DUP, 0, SWAP, 0);
        afterCube("dup of -1000", -1000, -5, DUP, 0, SWAP, 0);
        afterCube("skip with 1000", EMPTY, 5, SKIP, 1, NUM, 4);
        afterCube("skip with -1000", EMPTY, -5, SKIP, 1, NUM, 4);
        afterCube("back with 1000", EMPTY, 5, BACK, 9, NUM, 4);
        afterCube("back with -1000", 4, -5, BACK, 9, NUM, 4);
        afterCube("a trap though the next would come back", TRAP, 5, DUP, 0, ADD, 0, SKIP, 0);
    }

    /** The first seven instructions leave the cube of twice the input as the only number: 1000 for 5. */
    private static void afterCube(String what, int want, int input, int... more) {
        int[] cube = {IN, 0, IN, 0, ADD, 0, DUP, 0, DUP, 0, MUL, 0, MUL, 0};
        Checks.ends(what, want, input, join(cube, more));
    }

    /** "it ends NORMALLY if the number of the next instruction is the number of instructions" */
    private static void normalEndAtTheNumberOfInstructions() {
        Checks.ends("goes on to the end", 5, 1, IN, 0, NUM, 5);
        Checks.ends("skips to the end", 6, 1, NUM, 6, IN, 0, SKIP, 1, NUM, 5);
        Checks.ends("skips to the last", 5, 1, NUM, 6, IN, 0, SKIP, 1, ADD, 0, NUM, 5);
        Checks.ends("back to the end", 6, 1, NUM, 6, IN, 0, BACK, 4, NUM, 5);
        Checks.ends("back to the last", 5, 1, NUM, 6, IN, 0, BACK, 4, ADD, 0, NUM, 5);
        Checks.ends("a last skip that isn't taken", 6, 0, NUM, 6, IN, 0, SKIP, 3);
        Checks.ends("a last back that isn't taken", 6, 0, NUM, 6, IN, 0, BACK, 0);
    }

    /** "or greater" */
    private static void normalEndBehindTheNumberOfInstructions() {
        Checks.ends("skip 2 to one behind", 6, 1, NUM, 6, IN, 0, SKIP, 2, NUM, 5);
        Checks.ends("skip 3 to two behind", 6, 1, NUM, 6, IN, 0, SKIP, 3, NUM, 5);
        Checks.ends("a last skip 3", 6, 1, NUM, 6, IN, 0, SKIP, 3);
        Checks.ends("a tenth skip 3", 6, 1, NUM, 6, NUM, 0, SKIP, 0, NUM, 0, SKIP, 0, NUM, 0, SKIP, 0,
            DUP, 0, DUP, 0, SKIP, 3);
        Checks.ends("back 5 to one behind", 6, 1, NUM, 6, IN, 0, BACK, 5, NUM, 5);
        Checks.ends("back 9 to five behind", 6, 1, NUM, 6, IN, 0, BACK, 9, NUM, 5);
        Checks.ends("a last back 9", EMPTY, 1, IN, 0, BACK, 9);
    }

    /** "it ends TIRED if 40 instructions were executed and it has not ended" */
    private static void tiredAfterForty() {
        int[][] rounds = {
            {NUM, -1, ADD, 0, DUP, 0, BACK, 1},
            {NUM, -1, ADD, 0, DUP, 0, SWAP, 0, BACK, 1},
            {NUM, -1, ADD, 0, DUP, 0, SKIP, 0, DUP, 0, BACK, 1},
            {NUM, -1, ADD, 0, DUP, 0, SWAP, 0, SKIP, 0, DUP, 0, BACK, 1},
            {NUM, -1, ADD, 0, DUP, 0, SKIP, 0, DUP, 0, SKIP, 0, DUP, 0, BACK, 1},
        };
        boolean[] seen = new boolean[100];
        for (int[] round : rounds) {
            int[] code = join(new int[] {IN, 0}, round);
            for (int tail = 0; code.length <= 20; tail++) {
                for (int input = 1; input <= 7; input++) {
                    int steps = 1 + input * (round.length / 2) + tail;
                    seen[steps] = true;
                    Checks.ends(steps + " instructions", steps <= 40 ? tail : TIRED, input, code);
                }
                code = join(code, NUM, tail + 1);
            }
        }
        for (int steps = 36; steps <= 46; steps++) {
            Checks.holds("a run of " + steps + " instructions was tried", seen[steps]);
        }
    }

    /** "An instruction that ends the run with a trap counts as executed": the 40th traps, the 41st is too late. */
    private static void trapInTheFortieth() {
        // 1 + 6 * 6 + 3 instructions
        Checks.ends("the 40th has too few numbers", TRAP, 6, IN, 0, NUM, -1, ADD, 0, DUP, 0, SKIP, 0, DUP, 0, BACK, 1,
            NUM, 0, SKIP, 0, ADD, 0);
        // A round of nine leaves one number more; the fifth begins behind the 37th instruction with five of them.
        Checks.ends("the 39th puts a seventh on", TRAP, 2, NUM, 5, IN, 0, IN, 0, ADD, 0, DUP, 0, SKIP, 0,
            NUM, 0, SKIP, 0, NUM, 1, BACK, 1);
        Checks.ends("the 40th puts a seventh on", TRAP, 2, NUM, 5, IN, 0, SWAP, 0, IN, 0, ADD, 0, SWAP, 0,
            NUM, 0, SKIP, 0, NUM, 1, BACK, 1);
        Checks.ends("the 41st would put a seventh on", TIRED, 2, NUM, 5, IN, 0, SKIP, 0, IN, 0, IN, 0, ADD, 0,
            NUM, 0, SKIP, 0, NUM, 1, BACK, 1);
    }

    /** "after the 40th instruction the run ends normally if the next instruction's number is the number .. or greater" */
    private static void normalEndAfterTheFortieth() {
        int[] sevenRounds = {IN, 0, NUM, -1, ADD, 0, DUP, 0, SWAP, 0, BACK, 1};
        // 1 + 7 * 5 + 4 instructions
        Checks.ends("the 40th goes on to the end", 3, 7, join(sevenRounds, NUM, 0, SKIP, 0, NUM, 2, NUM, 3));
        Checks.ends("the 40th is a skip 0 to the end", 0, 7, join(sevenRounds, NUM, 0, SKIP, 0, NUM, 1, SKIP, 0));
        Checks.ends("the 40th skips to behind the end", 0, 7, join(sevenRounds, NUM, 0, SKIP, 0, NUM, 1, SKIP, 3));
        Checks.ends("the 40th is a back that isn't taken", 0, 7, join(sevenRounds, NUM, 0, SKIP, 0, NUM, 0, BACK, 0));
        Checks.ends("the 40th goes back to itself", TIRED, 7, join(sevenRounds, NUM, 0, SKIP, 0, NUM, 1, BACK, 9));
        Checks.ends("the 40th goes back to 0", TIRED, 7, join(sevenRounds, NUM, 0, SKIP, 0, NUM, 1, BACK, 0));
        // Counts up from -5: 2 + 5 * 7 + 3 instructions, and the last of them goes to instruction 9 of 9.
        int[] countUp = {IN, 0, NUM, 1, ADD, 0, DUP, 0, BACK, 9, NUM, 1, NUM, 1, SWAP, 0, BACK, 2};
        Checks.ends("the 40th is a back 9 to the end", 1, -5, countUp);
        Checks.ends("one round less", 1, -4, countUp);
        Checks.ends("one round more", TIRED, -6, countUp);
        Checks.ends("and a tenth that the 40th goes to", TIRED, -5, join(countUp, NUM, 0));
    }

    /** "for a normal end the top of the pile, or EMPTY if the pile is empty" */
    private static void outcomeIsTheTopOrEmpty() {
        Checks.ends("one number, 0", 0, 0, IN, 0);
        Checks.ends("one number", 7, 7, IN, 0);
        Checks.ends("the top of two", 2, 7, IN, 0, NUM, 2);
        Checks.ends("the top of six", 6, 7, NUM, 1, NUM, 2, NUM, 3, NUM, 4, NUM, 5, NUM, 6);
        Checks.ends("none", EMPTY, 7, IN, 0, SKIP, 0);
        Checks.ends("none, after two", EMPTY, 7, IN, 0, IN, 0, ADD, 0, SKIP, 0);
    }

    /** "The OUTCOME of a run is TRAP or TIRED": numbers that are left don't count then. */
    private static void outcomeIsTrapOrTiredWhateverIsOnThePile() {
        Checks.ends("a trap with a number", TRAP, 7, IN, 0, ADD, 0);
        Checks.ends("a trap with none", TRAP, 7, ADD, 0);
        Checks.ends("a trap with six", TRAP, 7, IN, 0, IN, 0, IN, 0, IN, 0, IN, 0, IN, 0, IN, 0);
        Checks.ends("tired with a number", TIRED, 7, IN, 0, DUP, 0, BACK, 1);
        Checks.ends("tired with none", TIRED, 7, IN, 0, BACK, 0);
    }

    /** "num n: num (n + 1) if n < 7, then num (n - 1) if n > -8" */
    private static void mutantsOfNum() {
        Checks.mutantsOf(NUM, -8, NUM, -7);
        for (int n = -7; n <= 6; n++) {
            Checks.mutantsOf(NUM, n, NUM, n + 1, NUM, n - 1);
        }
        Checks.mutantsOf(NUM, 7, NUM, 6);
    }

    /** "in: num 0"; "each of the other three, in the order of their numbers"; "dup: in"; "swap: dup" */
    private static void mutantsWithoutRange() {
        int[] unused = {0, 5, -9, 10, LEAST_INT, GREATEST_INT};
        for (int a : unused) {
            Checks.mutantsOf(IN, a, NUM, 0);
            Checks.mutantsOf(ADD, a, SUB, 0, MUL, 0, LESS, 0);
            Checks.mutantsOf(SUB, a, ADD, 0, MUL, 0, LESS, 0);
            Checks.mutantsOf(MUL, a, ADD, 0, SUB, 0, LESS, 0);
            Checks.mutantsOf(LESS, a, ADD, 0, SUB, 0, MUL, 0);
            Checks.mutantsOf(DUP, a, IN, 0);
            Checks.mutantsOf(SWAP, a, DUP, 0);
        }
    }

    /** "skip k: skip (k + 1) if k < 3, then skip (k - 1) if k > 0" */
    private static void mutantsOfSkip() {
        Checks.mutantsOf(SKIP, 0, SKIP, 1);
        Checks.mutantsOf(SKIP, 1, SKIP, 2, SKIP, 0);
        Checks.mutantsOf(SKIP, 2, SKIP, 3, SKIP, 1);
        Checks.mutantsOf(SKIP, 3, SKIP, 2);
    }

    /** "back k: back (k - 1) if k > 0" */
    private static void mutantsOfBack() {
        Checks.mutantsOf(BACK, 0);
        for (int k = 1; k <= 9; k++) {
            Checks.mutantsOf(BACK, k, BACK, k - 1);
        }
    }

    /** "for each instruction in turn, those made at it" */
    private static void mutantsInstructionByInstruction() {
        int[][] want = {
            {1, NUM, -7}, {2, ADD, 0}, {2, SUB, 0}, {2, MUL, 0}, {4, NUM, 1}, {4, NUM, -1}, {5, SKIP, 1},
            {6, DUP, 0}, {7, IN, 0}, {8, BACK, 8}, {9, NUM, 0},
        };
        MutantRunner x = Checks.program(BACK, 0, NUM, -8, LESS, 0, BACK, 0, NUM, 0, SKIP, 0, SWAP, 0, DUP, 0, BACK, 9,
            IN, 0);
        Checks.due("mutants()", x.mutants(), want.length);
        for (int m = 0; m < want.length; m++) {
            Checks.mutantIs("in turn", x, m, want[m][0], want[m][1], want[m][2]);
        }
        Checks.due("mutantAt behind the last", x.mutantAt(want.length), NONE);
    }

    /** "A MUTANT of a program is the program with one instruction replaced": the first and the last one too. */
    private static void mutantsHaveOneInstructionReplaced() {
        MutantRunner x = Checks.program(IN, 0, IN, 0, NUM, 0, ADD, 0, NUM, 0, ADD, 0, NUM, 0, ADD, 0, SUB, 0, DUP, 0);
        Checks.due("the program", x.outcome(3), 0);
        Checks.mutantIs("the first", x, 0, 0, NUM, 0);
        Checks.due("num 0 for the first in", x.outcomeOf(0, 3), -3);
        Checks.mutantIs("the second", x, 1, 1, NUM, 0);
        Checks.due("num 0 for the second in", x.outcomeOf(1, 3), 3);
        int last = x.mutants() - 1;
        Checks.mutantIs("the last", x, last, 9, IN, 0);
        Checks.due("in for the last dup", x.outcomeOf(last, 3), 3);
        Checks.due("the program is as it was", x.outcome(3), 0);
        // The replaced instruction is run more than once, and is replaced each time.
        Checks.write(x, IN, 0, NUM, -1, ADD, 0, DUP, 0, BACK, 1);
        Checks.mutantIs("in a loop", x, 2, 1, NUM, -2);
        Checks.due("counts down by two", x.outcomeOf(2, 5), -1);
        Checks.due("counts down by one", x.outcome(5), 0);
    }

    /** "TRIALS are inputs, at most 6 different ones, in the order in which they were added." */
    private static void sixDifferentTrialsInTheirOrder() {
        MutantRunner x = Checks.program(SIX_ALONE);
        Checks.addTrials(x, -4, -2, 0, 1, 4, 2);
        Checks.killersAre("in one order", x, 63, 63, 0, 0, 1, 2, 4, 8, 16, 32, 20, 0, 0, 63, 0, 0, 0);
        Checks.due("a seventh", x.trial(5), FULL);
        Checks.due("one of the six", x.trial(2), NONE);
        x.clearTrials();
        Checks.addTrials(x, 2, 4, 1, 0, -2, -4);
        Checks.killersAre("in the other", x, 63, 63, 0, 0, 32, 16, 8, 4, 2, 1, 10, 0, 0, 63, 0, 0, 0);
        x.clearTrials();
        Checks.due("first", x.trial(4), 1);
        Checks.due("not a different one", x.trial(4), NONE);
        Checks.due("second", x.trial(1), 2);
        Checks.killersAre("one that was refused has no number", x, 3, 3, 0, 0, 0, 0, 0, 2, 1, 0, 1, 0, 0, 3, 0, 0, 0);
    }

    /** "A mutant is KILLED by a trial if its outcome for this input is another one than the program's." */
    private static void killedByAnotherOutcome() {
        told("number, number", 0, 3, 3, 0, IN, 0);
        told("TRAP, number", 0, 3, TRAP, 3, DUP, 0);
        told("number, TRAP", 3, 3, 5, TRAP, NUM, 1, SKIP, 1, ADD, 0, NUM, 5);
        told("TRAP, TIRED", 1, 3, TRAP, TIRED, IN, 0, BACK, 1);
        told("TIRED, EMPTY", 0, 3, TIRED, EMPTY, IN, 0, BACK, 0);
        told("EMPTY, TRAP", 1, 3, EMPTY, TRAP, IN, 0, BACK, 2);
        told("EMPTY, number", 0, 3, EMPTY, 4, IN, 0, SKIP, 1, NUM, 4);
        told("TIRED, number", 0, 3, TIRED, 0, IN, 0, DUP, 0, BACK, 1);
    }

    private static void told(String what, int m, int input, int program, int mutant, int... code) {
        MutantRunner x = Checks.program(code);
        Checks.due(what + ": outcome", x.outcome(input), program);
        Checks.due(what + ": outcomeOf", x.outcomeOf(m, input), mutant);
        Checks.due(what + ": trial", x.trial(input), 1);
        Checks.due(what + ": killers", x.killers(m), program == mutant ? 0 : 1);
    }

    /** The same sentence, where the outcomes are the same and no numbers. */
    private static void notKilledByTheSameOutcome() {
        told("TRAP, TRAP", 0, 3, TRAP, TRAP, ADD, 0);
        told("TIRED, TIRED", 0, 3, TIRED, TIRED, NUM, 5, BACK, 0);
        told("EMPTY, EMPTY", 0, 3, EMPTY, EMPTY, IN, 0, SKIP, 0);
        told("number, number", 0, 0, 0, 0, IN, 0);
    }

    /** "It is EQUAL if for every input from -8 to 7 its outcome is the same as the program's." */
    private static void equalForEveryInput() {
        equalIs("killed by -8 alone", -8, 1, 1, IN, 0, NUM, -8, LESS, 0);
        equalIs("killed by 7 alone", 7, 0, 0, NUM, 6, IN, 0, LESS, 0);
        equalIs("killed by all but 0", -8, 0, 0, IN, 0);
        equalIs("killed by none", NONE, 0, 2, NUM, 5, NUM, 5);
        equalIs("killed by none, always a trap", NONE, 0, 3, ADD, 0);
    }

    private static void equalIs(String what, int killer, int m, int equalOnes, int... code) {
        MutantRunner x = Checks.program(code);
        Checks.due(what + ": killer", x.killer(m), killer);
        Checks.due(what + ": equalOnes", x.equalOnes(), equalOnes);
    }

    private static int[] join(int[] first, int... more) {
        int[] all = Arrays.copyOf(first, first.length + more.length);
        System.arraycopy(more, 0, all, first.length, more.length);
        return all;
    }
}
