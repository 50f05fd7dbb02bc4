/**
 * Programs for a small pile machine, all the programs that differ from one in a single place,
 * and which of a set of trial inputs tell them apart.
 */
public final class MutantRunner {
    public static final int BAD_ARG = -10001;
    public static final int FULL = -10002;
    public static final int NONE = -10004;
    public static final int TRAP = 10001;
    public static final int TIRED = 10002;
    public static final int EMPTY = 10003;

    private static final int OP_NUM = 0;
    private static final int OP_IN = 1;
    private static final int OP_ADD = 2;
    private static final int OP_SUB = 3;
    private static final int OP_MUL = 4;
    private static final int OP_LESS = 5;
    private static final int OP_DUP = 6;
    private static final int OP_SWAP = 7;
    private static final int OP_SKIP = 8;
    private static final int OP_BACK = 9;

    private static final int LEAST_INPUT = -8;
    private static final int GREATEST_INPUT = 7;
    private static final int GREATEST_SKIP = 3;
    private static final int GREATEST_BACK = 9;
    private static final int LEAST_NUMBER = -1000;
    private static final int GREATEST_NUMBER = 1000;
    private static final int MAX_INSTRUCTIONS = 10;
    private static final int MAX_PILE = 6;
    private static final int MAX_STEPS = 40;
    private static final int MAX_TRIALS = 6;
    // No instruction has more than three mutants.
    private static final int MAX_MUTANTS = 30;
    // Stands where a mutant's number is asked for and the program itself is meant.
    private static final int UNCHANGED = -1;

    private final int[] ops = new int[MAX_INSTRUCTIONS];
    private final int[] operands = new int[MAX_INSTRUCTIONS];
    private int instructionCount;

    private final int[] trialInputs = new int[MAX_TRIALS];
    private int trialCount;

    private final int[] mutantPlaces = new int[MAX_MUTANTS];
    private final int[] mutantOps = new int[MAX_MUTANTS];
    private final int[] mutantOperands = new int[MAX_MUTANTS];
    private int mutantCount;

    // Only valid within the call that filled it: trials and program may change between calls.
    private final int[] killerSets = new int[MAX_MUTANTS];

    private final int[] pile = new int[MAX_PILE];
    private int height;
    private int next;

    public MutantRunner() {
        addInstruction(OP_IN, 0);
    }

    public void begin() {
        instructionCount = 0;
        mutantCount = 0;
    }

    public int append(int op, int a) {
        if (!isInstruction(op, a)) {
            return BAD_ARG;
        }
        if (instructionCount >= MAX_INSTRUCTIONS) {
            return FULL;
        }
        addInstruction(op, a);
        return instructionCount - 1;
    }

    public int size() {
        return instructionCount;
    }

    public int outcome(int input) {
        if (!isInput(input)) {
            return BAD_ARG;
        }
        return run(UNCHANGED, input);
    }

    public int trial(int input) {
        if (!isInput(input)) {
            return BAD_ARG;
        }
        if (isTrial(input)) {
            return NONE;
        }
        if (trialCount >= MAX_TRIALS) {
            return FULL;
        }
        trialInputs[trialCount] = input;
        trialCount++;
        return trialCount;
    }

    public void clearTrials() {
        trialCount = 0;
    }

    public int mutants() {
        return mutantCount;
    }

    public int mutantAt(int m) {
        return isMutant(m) ? mutantPlaces[m] : NONE;
    }

    public int mutantOp(int m) {
        return isMutant(m) ? mutantOps[m] : NONE;
    }

    public int mutantNumber(int m) {
        return isMutant(m) ? mutantOperands[m] : NONE;
    }

    public int outcomeOf(int m, int input) {
        if (!isInput(input)) {
            return BAD_ARG;
        }
        if (!isMutant(m)) {
            return NONE;
        }
        return run(m, input);
    }

    public int killers(int m) {
        return isMutant(m) ? killerSet(m) : NONE;
    }

    public int killed() {
        int found = 0;
        for (int m = 0; m < mutantCount; m++) {
            if (killerSet(m) != 0) {
                found++;
            }
        }
        return found;
    }

    public int equalOnes() {
        int found = 0;
        for (int m = 0; m < mutantCount; m++) {
            if (leastKiller(m) == NONE) {
                found++;
            }
        }
        return found;
    }

    public int killer(int m) {
        return isMutant(m) ? leastKiller(m) : NONE;
    }

    public int needed() {
        fillKillerSets();
        int least = trialCount;
        int allTrials = (1 << trialCount) - 1;
        for (int chosen = 0; chosen < allTrials; chosen++) {
            int chosenCount = membersOf(chosen);
            if (chosenCount < least && killsAllKilled(chosen)) {
                least = chosenCount;
            }
        }
        return least;
    }

    public int leading() {
        fillKillerSets();
        int found = 0;
        for (int m = 0; m < mutantCount; m++) {
            if (killerSets[m] != 0 && !hasSmallerSet(killerSets[m])) {
                found++;
            }
        }
        return found;
    }

    public int numbers() {
        int found = 0;
        for (int input = LEAST_INPUT; input <= GREATEST_INPUT; input++) {
            int result = run(UNCHANGED, input);
            if (result != TRAP && result != TIRED && result != EMPTY) {
                found++;
            }
        }
        return found;
    }

    private static boolean isInput(int input) {
        return input >= LEAST_INPUT && input <= GREATEST_INPUT;
    }

    private static boolean isInstruction(int op, int operand) {
        switch (op) {
            case OP_NUM:
                return isInput(operand);
            case OP_SKIP:
                return operand >= 0 && operand <= GREATEST_SKIP;
            case OP_BACK:
                return operand >= 0 && operand <= GREATEST_BACK;
            default:
                return op >= OP_IN && op <= OP_SWAP;
        }
    }

    private boolean isMutant(int m) {
        return m >= 0 && m < mutantCount;
    }

    private boolean isTrial(int input) {
        for (int t = 0; t < trialCount; t++) {
            if (trialInputs[t] == input) {
                return true;
            }
        }
        return false;
    }

    // Mutants go by instruction, so those of a new last instruction follow all earlier ones.
    private void addInstruction(int op, int operand) {
        int place = instructionCount;
        ops[place] = op;
        operands[place] = operand;
        instructionCount++;
        addMutantsAt(place);
    }

    private void addMutantsAt(int place) {
        int operand = operands[place];
        switch (ops[place]) {
            case OP_NUM:
                addNeighbours(place, LEAST_INPUT, GREATEST_INPUT);
                break;
            case OP_IN:
                addMutant(place, OP_NUM, 0);
                break;
            case OP_DUP:
                addMutant(place, OP_IN, 0);
                break;
            case OP_SWAP:
                addMutant(place, OP_DUP, 0);
                break;
            case OP_SKIP:
                addNeighbours(place, 0, GREATEST_SKIP);
                break;
            case OP_BACK:
                if (operand > 0) {
                    addMutant(place, OP_BACK, operand - 1);
                }
                break;
            default:
                addOtherArithmetic(place);
                break;
        }
    }

    private void addNeighbours(int place, int least, int greatest) {
        int operand = operands[place];
        if (operand < greatest) {
            addMutant(place, ops[place], operand + 1);
        }
        if (operand > least) {
            addMutant(place, ops[place], operand - 1);
        }
    }

    private void addOtherArithmetic(int place) {
        for (int op = OP_ADD; op <= OP_LESS; op++) {
            if (op != ops[place]) {
                addMutant(place, op, 0);
            }
        }
    }

    private void addMutant(int place, int op, int operand) {
        if (mutantCount < MAX_MUTANTS) {
            mutantPlaces[mutantCount] = place;
            mutantOps[mutantCount] = op;
            mutantOperands[mutantCount] = operand;
            mutantCount++;
        }
    }

    private int run(int m, int input) {
        height = 0;
        next = 0;
        for (int steps = 0; steps < MAX_STEPS && next < instructionCount; steps++) {
            int op = ops[next];
            int operand = operands[next];
            if (m != UNCHANGED && mutantPlaces[m] == next) {
                op = mutantOps[m];
                operand = mutantOperands[m];
            }
            if (!execute(op, operand, input)) {
                return TRAP;
            }
        }
        if (next < instructionCount) {
            return TIRED;
        }
        return height == 0 ? EMPTY : pile[height - 1];
    }

    // Answers false if the instruction ends the run with a trap.
    private boolean execute(int op, int operand, int input) {
        next++;
        switch (op) {
            case OP_NUM:
                return put(operand);
            case OP_IN:
                return put(input);
            case OP_DUP:
                return height > 0 && put(pile[height - 1]);
            case OP_SWAP:
                return exchange();
            case OP_SKIP:
                return skip(operand);
            case OP_BACK:
                return goBack(operand);
            default:
                return combine(op);
        }
    }

    private boolean put(int number) {
        if (height >= MAX_PILE) {
            return false;
        }
        pile[height] = number;
        height++;
        return true;
    }

    private boolean exchange() {
        if (height < 2) {
            return false;
        }
        int top = pile[height - 1];
        pile[height - 1] = pile[height - 2];
        pile[height - 2] = top;
        return true;
    }

    private boolean skip(int distance) {
        if (height < 1) {
            return false;
        }
        height--;
        if (pile[height] != 0) {
            next += distance;
        }
        return true;
    }

    private boolean goBack(int target) {
        if (height < 1) {
            return false;
        }
        height--;
        if (pile[height] > 0) {
            next = target;
        }
        return true;
    }

    private boolean combine(int op) {
        if (height < 2) {
            return false;
        }
        int x = pile[height - 2];
        int y = pile[height - 1];
        int result = x < y ? 1 : 0;
        if (op == OP_ADD) {
            result = x + y;
        } else if (op == OP_SUB) {
            result = x - y;
        } else if (op == OP_MUL) {
            result = x * y;
        }
        if (result < LEAST_NUMBER || result > GREATEST_NUMBER) {
            return false;
        }
        height--;
        pile[height - 1] = result;
        return true;
    }

    private int killerSet(int m) {
        int set = 0;
        for (int t = 0; t < trialCount; t++) {
            int input = trialInputs[t];
            if (run(m, input) != run(UNCHANGED, input)) {
                set |= 1 << t;
            }
        }
        return set;
    }

    private void fillKillerSets() {
        for (int m = 0; m < mutantCount; m++) {
            killerSets[m] = killerSet(m);
        }
    }

    private int leastKiller(int m) {
        for (int input = LEAST_INPUT; input <= GREATEST_INPUT; input++) {
            if (run(m, input) != run(UNCHANGED, input)) {
                return input;
            }
        }
        return NONE;
    }

    private static int membersOf(int set) {
        int members = 0;
        for (int t = 0; t < MAX_TRIALS; t++) {
            members += (set >> t) & 1;
        }
        return members;
    }

    private boolean killsAllKilled(int chosen) {
        for (int m = 0; m < mutantCount; m++) {
            if (killerSets[m] != 0 && (killerSets[m] & chosen) == 0) {
                return false;
            }
        }
        return true;
    }

    private boolean hasSmallerSet(int set) {
        for (int m = 0; m < mutantCount; m++) {
            int other = killerSets[m];
            if (other != 0 && other != set && (other & set) == other) {
                return true;
            }
        }
        return false;
    }
}
