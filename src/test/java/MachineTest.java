/** Promise 5 and the machine of the document's Terms: instructions, traps, ends, and the step limit. */
public final class MachineTest {
    private static final int TRAP = MutantRunner.TRAP;
    private static final int TIRED = MutantRunner.TIRED;
    private static final int EMPTY = MutantRunner.EMPTY;

    private static final int NUM = Checks.NUM;
    private static final int IN = Checks.IN;
    private static final int ADD = Checks.ADD;
    private static final int SUB = Checks.SUB;
    private static final int MUL = Checks.MUL;
    private static final int LESS = Checks.LESS;
    private static final int DUP = Checks.DUP;
    private static final int SWAP = Checks.SWAP;
    private static final int SKIP = Checks.SKIP;
    private static final int BACK = Checks.BACK;

    public static void main(String[] args) {
        inputs();
        instructions();
        tooFewNumbers();
        seventhNumber();
        range();
        skips();
        backs();
        fortySteps();
        runsAreApart();
        Checks.end();
    }

    private static void ends(String what, int want, int input, int... instructions) {
        Checks.due(what + " for " + input, Checks.program(instructions).outcome(input), want);
    }

    private static void inputs() {
        MutantRunner x = Checks.program(IN, 0);
        for (int input = -8; input <= 7; input++) {
            Checks.due("in: outcome(" + input + ")", x.outcome(input), input);
        }
        int[] outside = {-9, 8, 100, -100, Integer.MIN_VALUE, Integer.MAX_VALUE};
        for (int input : outside) {
            Checks.due("outcome(" + input + ")", x.outcome(input), MutantRunner.BAD_ARG);
        }
    }

    private static void instructions() {
        ends("num", -8, 3, NUM, -8);
        ends("num", 7, 3, NUM, 7);
        ends("add", 9, 5, IN, 0, NUM, 4, ADD, 0);
        ends("sub is x - y", 1, 5, IN, 0, NUM, 4, SUB, 0);
        ends("mul", -20, -5, IN, 0, NUM, 4, MUL, 0);
        ends("less", 1, 3, IN, 0, NUM, 4, LESS, 0);
        ends("less of equal ones", 0, 4, IN, 0, NUM, 4, LESS, 0);
        ends("less of a greater one", 0, 5, IN, 0, NUM, 4, LESS, 0);
        ends("dup", 6, 3, IN, 0, DUP, 0, ADD, 0);
        ends("swap", 1, 5, NUM, 4, IN, 0, SWAP, 0, SUB, 0);
        ends("swap leaves the one below on top", 4, 5, NUM, 4, IN, 0, SWAP, 0);
        ends("add takes both off", 1, 5, NUM, 1, NUM, 2, NUM, 3, ADD, 0, SKIP, 0);
    }

    private static void tooFewNumbers() {
        for (int op = ADD; op <= BACK; op++) {
            ends("op " + op + " with no number", TRAP, 1, op, 0);
        }
        int[] ofTwo = {ADD, SUB, MUL, LESS, SWAP};
        for (int op : ofTwo) {
            ends("op " + op + " with one number", TRAP, 1, IN, 0, op, 0);
            int enough = Checks.program(IN, 0, IN, 0, op, 0).outcome(1);
            Checks.holds("op " + op + " with two numbers runs", enough != TRAP);
        }
        ends("skip takes the top off", EMPTY, 0, IN, 0, SKIP, 0);
        ends("skip, taken, takes the top off", EMPTY, 1, IN, 0, SKIP, 0);
        ends("back takes the top off", EMPTY, 0, IN, 0, BACK, 0);
        ends("back, taken, takes the top off", EMPTY, 1, IN, 0, BACK, 2);
        ends("a trap ends the run", TRAP, 1, ADD, 0, IN, 0);
    }

    private static void seventhNumber() {
        ends("six numbers", 2, 2, IN, 0, IN, 0, IN, 0, IN, 0, IN, 0, IN, 0);
        ends("seventh in", TRAP, 2, IN, 0, IN, 0, IN, 0, IN, 0, IN, 0, IN, 0, IN, 0);
        ends("seventh num", TRAP, 2, IN, 0, IN, 0, IN, 0, IN, 0, IN, 0, IN, 0, NUM, 1);
        ends("sixth dup", 2, 2, IN, 0, IN, 0, IN, 0, IN, 0, IN, 0, DUP, 0);
        ends("seventh dup", TRAP, 2, IN, 0, IN, 0, IN, 0, IN, 0, IN, 0, IN, 0, DUP, 0);
        ends("add with six", 4, 2, IN, 0, IN, 0, IN, 0, IN, 0, IN, 0, IN, 0, ADD, 0);
        ends("swap with six", 2, 2, IN, 0, IN, 0, IN, 0, IN, 0, IN, 0, NUM, 3, SWAP, 0);
    }

    private static void range() {
        ends("1000", 1000, 5, IN, 0, IN, 0, ADD, 0, DUP, 0, DUP, 0, MUL, 0, MUL, 0);
        ends("-1000", -1000, -5, IN, 0, IN, 0, ADD, 0, DUP, 0, DUP, 0, MUL, 0, MUL, 0);
        rangeAfter("1000 + 0", 1000, 5, NUM, 0, ADD, 0);
        rangeAfter("1000 + 1", TRAP, 5, NUM, 1, ADD, 0);
        rangeAfter("1000 - -1", TRAP, 5, NUM, -1, SUB, 0);
        rangeAfter("1000 - 1", 999, 5, NUM, 1, SUB, 0);
        rangeAfter("-1000 + -1", TRAP, -5, NUM, -1, ADD, 0);
        rangeAfter("-1000 - 1", TRAP, -5, NUM, 1, SUB, 0);
        rangeAfter("-1000 + 1", -999, -5, NUM, 1, ADD, 0);
        rangeAfter("1000 * -1", -1000, 5, NUM, -1, MUL, 0);
        rangeAfter("1000 * 2", TRAP, 5, NUM, 2, MUL, 0);
        rangeAfter("-1000 * 2", TRAP, -5, NUM, 2, MUL, 0);
        rangeAfter("1000 * 1000", TRAP, 5, DUP, 0, MUL, 0);
        rangeAfter("1000 - 1000", 0, 5, DUP, 0, SUB, 0);
        rangeAfter("1000 dup", 1000, 5, DUP, 0, SWAP, 0);
    }

    /** Two instructions after a run that has left the cube of twice the input as the only number. */
    private static void rangeAfter(String what, int want, int input, int op1, int a1, int op2, int a2) {
        ends(what, want, input, IN, 0, IN, 0, ADD, 0, DUP, 0, DUP, 0, MUL, 0, MUL, 0, op1, a1, op2, a2);
    }

    private static void skips() {
        for (int k = 0; k <= 3; k++) {
            int[] addOnes = {NUM, 1, NUM, 1, NUM, 1, NUM, 1, IN, 0, SKIP, k, ADD, 0, ADD, 0, ADD, 0};
            ends("skip " + k + " with 0", 4, 0, addOnes);
            ends("skip " + k + " with 1", 4 - k, 1, addOnes);
            ends("skip " + k + " with -8", 4 - k, -8, addOnes);
        }
        ends("skip 0 taken goes on", 4, 1, IN, 0, SKIP, 0, NUM, 4);
        ends("skip 1 to just behind the end", EMPTY, 1, IN, 0, SKIP, 1, NUM, 4);
        ends("skip 3 far behind the end", 5, 1, NUM, 5, IN, 0, SKIP, 3);
        ends("skip 1 leaves one out", 5, 1, IN, 0, SKIP, 1, ADD, 0, NUM, 5);
        ends("skip 1 with 0 leaves none out", TRAP, 0, IN, 0, SKIP, 1, ADD, 0, NUM, 5);
    }

    private static void backs() {
        int[] countDown = {IN, 0, NUM, -1, ADD, 0, DUP, 0, BACK, 1};
        for (int input = -8; input <= 1; input++) {
            ends("count down", input - 1, input, countDown);
        }
        for (int input = 1; input <= 7; input++) {
            ends("count down", 0, input, countDown);
        }
        ends("back goes on at k, also further on", 5, 1, IN, 0, BACK, 3, ADD, 0, NUM, 5);
        ends("back with 0 goes on at the next", TRAP, 0, IN, 0, BACK, 3, ADD, 0, NUM, 5);
        ends("back with a negative number goes on at the next", TRAP, -1, IN, 0, BACK, 3, ADD, 0, NUM, 5);
        ends("back to the number of instructions", 6, 1, NUM, 6, IN, 0, BACK, 4, ADD, 0);
        ends("back to behind the end", 6, 1, NUM, 6, IN, 0, BACK, 9, ADD, 0);
        ends("back to itself", TRAP, 1, IN, 0, BACK, 1);
        ends("back to 0 for ever", TIRED, 1, IN, 0, BACK, 0);
        ends("back to 0 with a growing pile", TRAP, 1, IN, 0, IN, 0, BACK, 0);
    }

    private static void fortySteps() {
        // 1 + 6 * 6 + 3 steps
        ends("the 40th is the last", 3, 6, IN, 0, NUM, -1, ADD, 0, DUP, 0, SKIP, 0, DUP, 0, BACK, 1,
            NUM, 1, NUM, 2, NUM, 3);
        // 1 + 7 * 5 + 4 steps
        ends("the 40th jumps behind the end", 0, 7, IN, 0, NUM, -1, ADD, 0, DUP, 0, SWAP, 0, BACK, 1,
            NUM, 0, SKIP, 0, NUM, 1, SKIP, 3);
        ends("the 40th jumps to the last one", TIRED, 7, IN, 0, NUM, -1, ADD, 0, DUP, 0, SWAP, 0, BACK, 1,
            NUM, 0, SKIP, 0, NUM, 1, BACK, 9);
        ends("the 40th traps", TRAP, 6, IN, 0, NUM, -1, ADD, 0, DUP, 0, SKIP, 0, DUP, 0, BACK, 1,
            NUM, 0, SKIP, 0, ADD, 0);
        // 1 + 5 * 8 steps
        int[] longLoop = {IN, 0, NUM, -1, ADD, 0, DUP, 0, SKIP, 0, DUP, 0, SKIP, 0, DUP, 0, BACK, 1};
        ends("41 steps are too many", TIRED, 5, longLoop);
        ends("33 steps are not", 0, 4, longLoop);
        // Each round leaves one number more; the seventh would be put on by the 41st step.
        ends("a trap in the 41st is too late", TIRED, 2, NUM, 5, IN, 0, SKIP, 0, IN, 0, IN, 0, ADD, 0,
            NUM, 0, SKIP, 0, NUM, 1, BACK, 1);
    }

    private static void runsAreApart() {
        MutantRunner x = Checks.program(IN, 0, SKIP, 1, NUM, 4);
        Checks.due("a number is left", x.outcome(0), 4);
        Checks.due("the next run begins with an empty pile", x.outcome(1), EMPTY);
        Checks.due("and again", x.outcome(0), 4);
    }
}
