/** One method for each promise; what the machine does (promise 5) is looked at more closely in MachineTest. */
public final class PromisesTest {
    private static final int BAD_ARG = MutantRunner.BAD_ARG;
    private static final int FULL = MutantRunner.FULL;
    private static final int NONE = MutantRunner.NONE;
    private static final int TRAP = MutantRunner.TRAP;
    private static final int TIRED = MutantRunner.TIRED;
    private static final int EMPTY = MutantRunner.EMPTY;

    private static final int NUM = Checks.NUM;
    private static final int IN = Checks.IN;
    private static final int ADD = Checks.ADD;
    private static final int SUB = Checks.SUB;
    private static final int MUL = Checks.MUL;
    private static final int LESS = Checks.LESS;
    private static final int DUP = Checks.DUP;
    private static final int SWAP = Checks.SWAP;
    private static final int SKIP = Checks.SKIP;
    private static final int BACK = Checks.BACK;

    private static final int[] OUTSIDE = {-9, 8, 1000, -1000, Integer.MIN_VALUE, Integer.MAX_VALUE};

    /** Is the input less than 2? Its mutants 1 and 2 are killed by one input alone, 2 and 1. */
    private static final int[] LESS_THAN_2 = {IN, 0, NUM, 2, LESS, 0};

    public static void main(String[] args) {
        promise1NewObject();
        promise2Begin();
        promise3AppendAnswers();
        promise3AppendRefuses();
        promise4Size();
        promise5Outcome();
        promise6Trial();
        promise7ClearTrials();
        promises8To11Mutants();
        promises8To11MutantsInOrder();
        promises9To16NoSuchMutant();
        promise12OutcomeOf();
        promise13Killers();
        promise14Killed();
        promise15EqualOnes();
        promise16Killer();
        promise17Needed();
        promise18Leading();
        promise19Numbers();
        promise20TrialsStay();
        Checks.end();
    }

    private static void promise1NewObject() {
        MutantRunner x = new MutantRunner();
        Checks.due("1: size()", x.size(), 1);
        for (int input = -8; input <= 7; input++) {
            Checks.due("1: outcome(" + input + ")", x.outcome(input), input);
        }
        Checks.due("1: mutants()", x.mutants(), 1);
        mutantIs("1", x, 0, 0, NUM, 0);
        Checks.due("1: killers(0)", x.killers(0), 0);
        Checks.due("1: killed()", x.killed(), 0);
        Checks.due("1: needed()", x.needed(), 0);
        Checks.due("1: leading()", x.leading(), 0);
        Checks.due("1: equalOnes()", x.equalOnes(), 0);
        Checks.due("1: numbers()", x.numbers(), 16);
        Checks.due("1: append goes behind the in", x.append(NUM, 5), 1);
        Checks.due("1: first trial", x.trial(3), 1);
        MutantRunner y = new MutantRunner();
        Checks.due("1: objects are apart, size()", y.size(), 1);
        Checks.due("1: objects are apart, trial(3)", y.trial(3), 1);
    }

    private static void promise2Begin() {
        MutantRunner x = Checks.program(IN, 0, DUP, 0, ADD, 0);
        Checks.addTrials(x, 1, 2);
        x.begin();
        Checks.due("2: size()", x.size(), 0);
        Checks.due("2: mutants()", x.mutants(), 0);
        for (int input = -8; input <= 7; input++) {
            Checks.due("2: outcome(" + input + ")", x.outcome(input), EMPTY);
        }
        Checks.due("2: outcome(8)", x.outcome(8), BAD_ARG);
        Checks.due("2: mutantAt(0)", x.mutantAt(0), NONE);
        Checks.due("2: outcomeOf(0, 0)", x.outcomeOf(0, 0), NONE);
        Checks.due("2: outcomeOf(0, 8)", x.outcomeOf(0, 8), BAD_ARG);
        Checks.due("2: killed()", x.killed(), 0);
        Checks.due("2: equalOnes()", x.equalOnes(), 0);
        Checks.due("2: needed()", x.needed(), 0);
        Checks.due("2: leading()", x.leading(), 0);
        Checks.due("2: numbers()", x.numbers(), 0);
        Checks.due("2: append", x.append(NUM, 4), 0);
        Checks.due("2: outcome(1)", x.outcome(1), 4);
        Checks.due("2: mutants() of the new program", x.mutants(), 2);
        mutantIs("2", x, 0, 0, NUM, 5);
    }

    private static void promise3AppendAnswers() {
        for (int op = 0; op <= 9; op++) {
            MutantRunner x = new MutantRunner();
            Checks.due("3: append(" + op + ", 0)", x.append(op, 0), 1);
        }
        Checks.program(NUM, -8, NUM, 7, SKIP, 0, SKIP, 3, BACK, 0, BACK, 9);
        for (int op = IN; op <= SWAP; op++) {
            for (int a : OUTSIDE) {
                Checks.due("3: append(" + op + ", " + a + ")", new MutantRunner().append(op, a), 1);
            }
        }
        Checks.due("3: an unused number is not used", Checks.program(IN, 99, DUP, -99, ADD, 7).outcome(3), 6);
    }

    private static void promise3AppendRefuses() {
        int[][] bad = {
            {-1, 0}, {10, 0}, {Integer.MIN_VALUE, 0}, {Integer.MAX_VALUE, 0},
            {NUM, -9}, {NUM, 8}, {NUM, Integer.MIN_VALUE}, {NUM, Integer.MAX_VALUE},
            {SKIP, -1}, {SKIP, 4}, {SKIP, Integer.MIN_VALUE}, {SKIP, Integer.MAX_VALUE},
            {BACK, -1}, {BACK, 10}, {BACK, Integer.MIN_VALUE}, {BACK, Integer.MAX_VALUE},
        };
        MutantRunner x = new MutantRunner();
        refusesAll(x, bad, BAD_ARG, 1);
        for (int number = 1; number < 10; number++) {
            Checks.due("3: append a dup", x.append(DUP, 0), number);
        }
        refusesAll(x, bad, BAD_ARG, 10);
        int[][] good = {{NUM, 3}, {IN, 0}, {ADD, 77}, {SKIP, 3}, {BACK, 9}};
        refusesAll(x, good, FULL, 10);
        Checks.due("3: mutants() after refusals", x.mutants(), 10);
        Checks.due("3: outcome(1) after refusals", x.outcome(1), TRAP);
        x.begin();
        Checks.due("3: append after begin", x.append(NUM, 3), 0);
    }

    private static void refusesAll(MutantRunner x, int[][] calls, int code, int size) {
        int mutants = x.mutants();
        for (int[] call : calls) {
            Checks.due("3: append(" + call[0] + ", " + call[1] + ")", x.append(call[0], call[1]), code);
            Checks.due("3: size() after a refusal", x.size(), size);
            Checks.due("3: mutants() after a refusal", x.mutants(), mutants);
        }
    }

    private static void promise4Size() {
        MutantRunner x = new MutantRunner();
        x.begin();
        for (int size = 0; size < 10; size++) {
            Checks.due("4: size()", x.size(), size);
            Checks.due("4: append", x.append(size, 0), size);
        }
        Checks.due("4: size()", x.size(), 10);
    }

    private static void promise5Outcome() {
        MutantRunner x = Checks.program(IN, 0, SKIP, 1, DUP, 0, IN, 0, BACK, 0);
        Checks.due("5: outcome(0)", x.outcome(0), TRAP);
        Checks.due("5: outcome(3)", x.outcome(3), TIRED);
        Checks.due("5: outcome(-3)", x.outcome(-3), EMPTY);
        for (int input : OUTSIDE) {
            Checks.due("5: outcome(" + input + ")", x.outcome(input), BAD_ARG);
        }
    }

    private static void promise6Trial() {
        MutantRunner x = new MutantRunner();
        for (int input : OUTSIDE) {
            Checks.due("6: trial(" + input + ")", x.trial(input), BAD_ARG);
        }
        Checks.due("6: trial(0)", x.trial(0), 1);
        Checks.due("6: trial(0) again", x.trial(0), NONE);
        Checks.due("6: trial(-8)", x.trial(-8), 2);
        Checks.due("6: trial(7)", x.trial(7), 3);
        Checks.due("6: trial(0) again", x.trial(0), NONE);
        Checks.due("6: trial(3)", x.trial(3), 4);
        Checks.due("6: trial(-3)", x.trial(-3), 5);
        Checks.due("6: trial(1)", x.trial(1), 6);
        Checks.due("6: trial(2), the seventh", x.trial(2), FULL);
        int[] present = {0, -8, 7, 3, -3, 1};
        for (int input : present) {
            Checks.due("6: NONE goes before FULL", x.trial(input), NONE);
        }
        for (int input : OUTSIDE) {
            Checks.due("6: BAD_ARG goes before FULL", x.trial(input), BAD_ARG);
        }
        // in and num 0 differ for every trial but the first, 0.
        Checks.due("6: refused trials change nothing", x.killers(0), 62);
    }

    private static void promise7ClearTrials() {
        MutantRunner x = new MutantRunner();
        Checks.addTrials(x, 1, 2, 3, 4, 5, 6);
        Checks.due("7: killers(0)", x.killers(0), 63);
        x.clearTrials();
        Checks.due("7: killers(0) without trials", x.killers(0), 0);
        Checks.due("7: killed() without trials", x.killed(), 0);
        Checks.due("7: needed() without trials", x.needed(), 0);
        Checks.due("7: leading() without trials", x.leading(), 0);
        Checks.due("7: the program stays", x.size(), 1);
        Checks.due("7: the mutants stay", x.mutants(), 1);
        Checks.addTrials(x, 6, 5, 4, 3, 2, 1);
        Checks.due("7: trial(0)", x.trial(0), FULL);
        x.clearTrials();
        x.clearTrials();
        Checks.due("7: trial(6)", x.trial(6), 1);
    }

    private static void mutantIs(String where, MutantRunner x, int m, int at, int op, int number) {
        Checks.due(where + ": mutantAt(" + m + ")", x.mutantAt(m), at);
        Checks.due(where + ": mutantOp(" + m + ")", x.mutantOp(m), op);
        Checks.due(where + ": mutantNumber(" + m + ")", x.mutantNumber(m), number);
    }

    /** The mutants of the one instruction op a are the given ones, as op, number, op, number, ... */
    private static void mutantsOf(int op, int a, int... mutants) {
        MutantRunner x = Checks.program(op, a);
        String where = "8 to 11: op " + op + " with " + a;
        Checks.due(where + ": mutants()", x.mutants(), mutants.length / 2);
        for (int m = 0; m < mutants.length / 2; m++) {
            mutantIs(where, x, m, 0, mutants[2 * m], mutants[2 * m + 1]);
        }
    }

    private static void promises8To11Mutants() {
        mutantsOf(NUM, -8, NUM, -7);
        for (int n = -7; n <= 6; n++) {
            mutantsOf(NUM, n, NUM, n + 1, NUM, n - 1);
        }
        mutantsOf(NUM, 7, NUM, 6);
        mutantsOf(IN, 5, NUM, 0);
        mutantsOf(ADD, 5, SUB, 0, MUL, 0, LESS, 0);
        mutantsOf(SUB, 5, ADD, 0, MUL, 0, LESS, 0);
        mutantsOf(MUL, 5, ADD, 0, SUB, 0, LESS, 0);
        mutantsOf(LESS, 5, ADD, 0, SUB, 0, MUL, 0);
        mutantsOf(DUP, 5, IN, 0);
        mutantsOf(SWAP, 5, DUP, 0);
        mutantsOf(SKIP, 0, SKIP, 1);
        mutantsOf(SKIP, 1, SKIP, 2, SKIP, 0);
        mutantsOf(SKIP, 2, SKIP, 3, SKIP, 1);
        mutantsOf(SKIP, 3, SKIP, 2);
        mutantsOf(BACK, 0);
        for (int k = 1; k <= 9; k++) {
            mutantsOf(BACK, k, BACK, k - 1);
        }
    }

    private static void promises8To11MutantsInOrder() {
        MutantRunner x = Checks.program(NUM, 3, BACK, 0, IN, 0, SUB, 0, SKIP, 3, SWAP, 0, BACK, 7);
        Checks.due("8: mutants()", x.mutants(), 9);
        int[][] want = {
            {0, NUM, 4}, {0, NUM, 2}, {2, NUM, 0}, {3, ADD, 0}, {3, MUL, 0}, {3, LESS, 0},
            {4, SKIP, 2}, {5, DUP, 0}, {6, BACK, 6},
        };
        for (int m = 0; m < want.length; m++) {
            mutantIs("9 to 11", x, m, want[m][0], want[m][1], want[m][2]);
        }
        MutantRunner most = Checks.program(ADD, 0, ADD, 0, ADD, 0, ADD, 0, ADD, 0, ADD, 0, ADD, 0, ADD, 0, ADD, 0, ADD, 0);
        Checks.due("8: the most mutants", most.mutants(), 30);
        mutantIs("9 to 11", most, 29, 9, LESS, 0);
        Checks.due("9: mutantAt(30)", most.mutantAt(30), NONE);
        Checks.addTrials(most, 1, 2, 3, 4, 5, 6);
        Checks.due("13: killers(29)", most.killers(29), 0);
        Checks.due("14: killed() of the most", most.killed(), 0);
        Checks.due("15: equalOnes() of the most", most.equalOnes(), 30);
        Checks.due("17: needed() of the most", most.needed(), 0);
        Checks.due("18: leading() of the most", most.leading(), 0);
    }

    private static void promises9To16NoSuchMutant() {
        MutantRunner x = Checks.program(LESS_THAN_2);
        Checks.addTrials(x, 1);
        int[] absent = {-1, 6, 30, 31, -10004, Integer.MIN_VALUE, Integer.MAX_VALUE};
        for (int m : absent) {
            Checks.due("9: mutantAt(" + m + ")", x.mutantAt(m), NONE);
            Checks.due("10: mutantOp(" + m + ")", x.mutantOp(m), NONE);
            Checks.due("11: mutantNumber(" + m + ")", x.mutantNumber(m), NONE);
            Checks.due("12: outcomeOf(" + m + ", 0)", x.outcomeOf(m, 0), NONE);
            Checks.due("12: outcomeOf(" + m + ", 8)", x.outcomeOf(m, 8), BAD_ARG);
            Checks.due("13: killers(" + m + ")", x.killers(m), NONE);
            Checks.due("16: killer(" + m + ")", x.killer(m), NONE);
        }
    }

    private static void promise12OutcomeOf() {
        MutantRunner x = Checks.program(LESS_THAN_2);
        for (int input = -8; input <= 7; input++) {
            Checks.due("12: num 0 at 0", x.outcomeOf(0, input), 1);
            Checks.due("12: num 3 at 1", x.outcomeOf(1, input), input < 3 ? 1 : 0);
            Checks.due("12: num 1 at 1", x.outcomeOf(2, input), input < 1 ? 1 : 0);
            Checks.due("12: add at 2", x.outcomeOf(3, input), input + 2);
            Checks.due("12: sub at 2", x.outcomeOf(4, input), input - 2);
            Checks.due("12: mul at 2", x.outcomeOf(5, input), input * 2);
            Checks.due("12: the program is as it was", x.outcome(input), input < 2 ? 1 : 0);
        }
        for (int input : OUTSIDE) {
            Checks.due("12: outcomeOf(0, " + input + ")", x.outcomeOf(0, input), BAD_ARG);
        }
        Checks.write(x, IN, 0, BACK, 1);
        Checks.due("12: in at 0 made num 0", x.outcomeOf(0, 1), EMPTY);
        Checks.due("12: back 1 made back 0", x.outcomeOf(1, 1), TIRED);
        Checks.write(x, IN, 0, SWAP, 0);
        Checks.due("12: swap made dup", x.outcomeOf(1, 6), 6);
        Checks.write(x, DUP, 0, SKIP, 0);
        Checks.due("12: dup made in", x.outcomeOf(0, 6), EMPTY);
        Checks.due("12: a mutant that traps", x.outcomeOf(1, 6), TRAP);
    }

    private static void killersAre(String where, MutantRunner x, int... want) {
        Checks.due(where + ": mutants()", x.mutants(), want.length);
        for (int m = 0; m < want.length; m++) {
            Checks.due(where + ": killers(" + m + ")", x.killers(m), want[m]);
        }
    }

    private static void promise13Killers() {
        MutantRunner x = Checks.program(LESS_THAN_2);
        killersAre("13: no trial", x, 0, 0, 0, 0, 0, 0);
        Checks.addTrials(x, 1, 2, -1, 5);
        killersAre("13: 1 2 -1 5", x, 10, 2, 1, 11, 13, 15);
        x.clearTrials();
        Checks.addTrials(x, 5, -1, 2, 1);
        killersAre("13: 5 -1 2 1", x, 5, 4, 8, 13, 11, 15);
        Checks.due("13: trial(7)", x.trial(7), 5);
        Checks.due("13: trial(3)", x.trial(3), 6);
        killersAre("13: 5 -1 2 1 7 3", x, 53, 4, 8, 61, 59, 63);
        Checks.due("13: append", x.append(SKIP, 0), 3);
        killersAre("13: an end that hides all", x, 0, 0, 0, 0, 0, 0, 0);
        Checks.write(x, IN, 0, BACK, 0);
        x.clearTrials();
        Checks.addTrials(x, -4, 4);
        killersAre("13: TIRED is told from EMPTY", x, 2);
        Checks.write(x, DUP, 0);
        killersAre("13: TRAP is told from a number", x, 3);
    }

    private static void promise14Killed() {
        MutantRunner x = Checks.program(LESS_THAN_2);
        Checks.due("14: no trial", x.killed(), 0);
        Checks.due("14: trial(-1)", x.trial(-1), 1);
        Checks.due("14: -1", x.killed(), 2);
        Checks.due("14: trial(5)", x.trial(5), 2);
        Checks.due("14: -1 5", x.killed(), 4);
        Checks.due("14: trial(2)", x.trial(2), 3);
        Checks.due("14: -1 5 2", x.killed(), 5);
        Checks.due("14: trial(1)", x.trial(1), 4);
        Checks.due("14: -1 5 2 1", x.killed(), 6);
    }

    private static void promise15EqualOnes() {
        MutantRunner x = Checks.program(LESS_THAN_2);
        Checks.due("15: none", x.equalOnes(), 0);
        Checks.due("15: append", x.append(SKIP, 2), 3);
        Checks.due("15: a program that ends EMPTY", x.equalOnes(), 8);
        Checks.write(x, NUM, 0, NUM, 0, ADD, 0);
        Checks.due("15: sub, mul and less of 0 and 0", x.equalOnes(), 3);
        // The mutants with -8 and 7 as the only input that kills them: they are not equal.
        Checks.write(x, IN, 0, NUM, -8, LESS, 0);
        Checks.due("15: killed by -8 alone", x.killer(1), -8);
        Checks.write(x, IN, 0, NUM, 7, LESS, 0);
        Checks.due("15: killed by 6 alone", x.killer(1), 6);
        Checks.due("15: is in less than 7", x.equalOnes(), 0);
        Checks.write(x, NUM, 6, IN, 0, LESS, 0);
        Checks.due("15: killed by 7 alone", x.killer(0), 7);
        Checks.due("15: is 6 less than in", x.equalOnes(), 0);
        Checks.write(x, NUM, 7, IN, 0, LESS, 0);
        Checks.due("15: is 7 less than in: num 0 for in", x.killer(1), NONE);
        Checks.due("15: is 7 less than in", x.equalOnes(), 1);
        Checks.due("15: trial(3)", x.trial(3), 1);
        Checks.due("15: trials don't matter", x.equalOnes(), 1);
    }

    private static void promise16Killer() {
        MutantRunner x = Checks.program(LESS_THAN_2);
        int[] want = {2, 2, 1, -8, -8, -8};
        for (int m = 0; m < want.length; m++) {
            Checks.due("16: killer(" + m + ")", x.killer(m), want[m]);
        }
        Checks.addTrials(x, 5, 7);
        Checks.due("16: trials don't matter", x.killer(0), 2);
        Checks.due("16: trials are not changed", x.killers(0), 3);
        Checks.due("16: append", x.append(SKIP, 0), 3);
        for (int m = 0; m < 7; m++) {
            Checks.due("16: equal, killer(" + m + ")", x.killer(m), NONE);
        }
    }

    private static void promise17Needed() {
        MutantRunner x = Checks.program(LESS_THAN_2);
        Checks.addTrials(x, -1, 5);
        Checks.due("17: -1 5", x.needed(), 1);
        Checks.due("17: trial(2)", x.trial(2), 3);
        Checks.due("17: -1 5 2", x.needed(), 2);
        Checks.due("17: trial(1)", x.trial(1), 4);
        Checks.due("17: -1 5 2 1", x.needed(), 2);
        // Two borders: each of 2, 1, -3 and -4 is the only one to kill a mutant of a num.
        Checks.write(x, IN, 0, NUM, 2, LESS, 0, IN, 0, NUM, -3, LESS, 0, ADD, 0);
        x.clearTrials();
        Checks.addTrials(x, 2, 1, -3, -4);
        Checks.due("17: two borders", x.needed(), 4);
        Checks.due("17: two borders, trial(7)", x.trial(7), 5);
        Checks.due("17: two borders and one trial more", x.needed(), 4);
        Checks.write(x, IN, 0, SKIP, 3);
        Checks.due("17: nothing is killed", x.needed(), 0);
        // Each trial kills four; to begin with the first of them would lead to three.
        Checks.write(x, NUM, -4, IN, 0, LESS, 0);
        x.clearTrials();
        Checks.addTrials(x, -7, -3, -4);
        killersAre("17: is -4 less than in", x, 2, 4, 5, 7, 3, 7);
        Checks.due("17: is -4 less than in", x.needed(), 2);
        Checks.write(x, NUM, 7, IN, 0, LESS, 0);
        x.clearTrials();
        Checks.addTrials(x, 7, 1);
        killersAre("17: the first mutant counts", x, 1, 0, 3, 2, 3);
        Checks.due("17: the first mutant counts", x.needed(), 2);
    }

    private static void promise18Leading() {
        MutantRunner x = Checks.program(LESS_THAN_2);
        Checks.addTrials(x, -1, 5);
        // Sets 2, 0, 0, 2, 3, 3: equal sets don't hinder each other, and empty ones hinder none.
        Checks.due("18: -1 5", x.leading(), 2);
        Checks.due("18: trial(2)", x.trial(2), 3);
        // Sets 6, 4, 0, 6, 3, 7: neither of 4 and 3 is a part of the other.
        Checks.due("18: -1 5 2", x.leading(), 2);
        Checks.write(x, NUM, 3, IN, 0, MUL, 0);
        x.clearTrials();
        Checks.addTrials(x, 0);
        Checks.due("18: 3 * in, 0", x.leading(), 2);
        Checks.due("18: trial(1)", x.trial(1), 2);
        killersAre("18: 3 * in, 0 1", x, 2, 2, 2, 3, 3, 2);
        Checks.due("18: 3 * in, 0 1", x.leading(), 4);
        Checks.write(x, NUM, 7, IN, 0, LESS, 0);
        x.clearTrials();
        Checks.addTrials(x, 7, -7, 0);
        killersAre("18: the first mutant hinders", x, 1, 0, 5, 6, 3);
        Checks.due("18: the first mutant hinders", x.leading(), 2);
        x.begin();
        Checks.due("18: sets of an earlier program don't count", x.leading(), 0);
        Checks.due("18: append", x.append(NUM, 7), 0);
        Checks.due("18: one mutant", x.leading(), 1);
    }

    private static void promise19Numbers() {
        MutantRunner x = Checks.program(IN, 0, SKIP, 1, NUM, 5);
        Checks.due("19: EMPTY but for 0", x.numbers(), 1);
        Checks.write(x, IN, 0, DUP, 0, BACK, 1);
        Checks.due("19: TIRED if greater than 0", x.outcome(1), TIRED);
        Checks.due("19: TIRED for 1 to 7", x.numbers(), 9);
        Checks.write(x, IN, 0, DUP, 0, MUL, 0, DUP, 0, MUL, 0);
        Checks.due("19: TRAP for -8 to -6, 6 and 7", x.numbers(), 11);
        Checks.write(x, IN, 0, IN, 0, ADD, 0, DUP, 0, DUP, 0, MUL, 0, MUL, 0);
        Checks.due("19: 1000 and -1000 are numbers", x.numbers(), 11);
        Checks.write(x, NUM, 0);
        Checks.due("19: 0 is a number", x.numbers(), 16);
        Checks.write(x, ADD, 0);
        Checks.due("19: always a TRAP", x.numbers(), 0);
    }

    private static void promise20TrialsStay() {
        MutantRunner x = new MutantRunner();
        Checks.addTrials(x, 1, 2, -1, 5);
        x.begin();
        Checks.due("20: trial(2) is one still", x.trial(2), NONE);
        Checks.due("20: trial(7)", x.trial(7), 5);
        Checks.write(x, LESS_THAN_2);
        killersAre("20: the trials in their order", x, 26, 2, 1, 27, 29, 31);
        Checks.due("20: trial(6)", x.trial(6), 6);
        x.begin();
        Checks.due("20: trial(0)", x.trial(0), FULL);
    }
}
