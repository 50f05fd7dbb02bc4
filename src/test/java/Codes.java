/** The names that the tests use for ops and answers, and the arguments that are out of range. */
interface Codes {
    int NUM = 0;
    int IN = 1;
    int ADD = 2;
    int SUB = 3;
    int MUL = 4;
    int LESS = 5;
    int DUP = 6;
    int SWAP = 7;
    int SKIP = 8;
    int BACK = 9;

    int BAD_ARG = MutantRunner.BAD_ARG;
    int FULL = MutantRunner.FULL;
    int NONE = MutantRunner.NONE;
    int TRAP = MutantRunner.TRAP;
    int TIRED = MutantRunner.TIRED;
    int EMPTY = MutantRunner.EMPTY;

    int LEAST_INT = Integer.MIN_VALUE;
    int GREATEST_INT = Integer.MAX_VALUE;

    /** No input, and no number of a num: the first on either side, some further on, and the last of all. */
    int[] OUTSIDE = {-9, 8, -10, 9, -1000, 1000, LEAST_INT, GREATEST_INT};

    /** The appends that are refused in every state, as op and number. */
    int[][] BAD_APPENDS = {
        {-1, 0}, {10, 0}, {LEAST_INT, 0}, {GREATEST_INT, 0},
        {-1, LEAST_INT}, {10, GREATEST_INT},
        {NUM, -9}, {NUM, 8}, {NUM, LEAST_INT}, {NUM, GREATEST_INT},
        {SKIP, -1}, {SKIP, 4}, {SKIP, LEAST_INT}, {SKIP, GREATEST_INT},
        {BACK, -1}, {BACK, 10}, {BACK, LEAST_INT}, {BACK, GREATEST_INT},
    };

    /** The appends with the last numbers that are still allowed, and with a number that is not used. */
    int[][] GOOD_APPENDS = {
        {NUM, -8}, {NUM, 7}, {SKIP, 0}, {SKIP, 3}, {BACK, 0}, {BACK, 9},
        {IN, LEAST_INT}, {ADD, GREATEST_INT}, {SUB, -1}, {MUL, 10}, {LESS, 0}, {DUP, LEAST_INT}, {SWAP, GREATEST_INT},
    };

    /** Is the input less than 2? Its mutants 1 and 2 are killed by one input alone, 2 and 1. */
    int[] LESS_THAN_2 = {IN, 0, NUM, 2, LESS, 0};

    /**
     * Goes round the less, which would trap, if -4 + input - input is not 0; six of its mutants are killed by one
     * input alone, which is another one for each of them.
     */
    int[] SIX_ALONE = {NUM, -3, NUM, -4, IN, 0, ADD, 0, IN, 0, SUB, 0, SKIP, 1, LESS, 0};

    /** The inputs that alone kill a mutant of SIX_ALONE. */
    int[] ALONE = {-4, -2, 0, 1, 4, 2};
}
