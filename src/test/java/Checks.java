/** What the tests share: counting wrong answers and making programs. */
final class Checks {
    static final int NUM = 0;
    static final int IN = 1;
    static final int ADD = 2;
    static final int SUB = 3;
    static final int MUL = 4;
    static final int LESS = 5;
    static final int DUP = 6;
    static final int SWAP = 7;
    static final int SKIP = 8;
    static final int BACK = 9;

    private static int wrong = 0;

    private Checks() {
    }

    static void due(String what, long got, long want) {
        if (got != want) {
            wrong++;
            System.out.println(what + " answered " + got + ", due is " + want);
        }
    }

    static void holds(String what, boolean held) {
        if (!held) {
            wrong++;
            System.out.println("does not hold: " + what);
        }
    }

    static int wrongSoFar() {
        return wrong;
    }

    static void end() {
        if (wrong != 0) {
            System.out.println(wrong + " wrong");
            System.exit(1);
        }
    }

    /** Replaces the program; the instructions are given as op, number, op, number, ... */
    static void write(MutantRunner x, int... instructions) {
        x.begin();
        for (int i = 0; i < instructions.length; i += 2) {
            int op = instructions[i];
            int a = instructions[i + 1];
            due("append(" + op + ", " + a + ")", x.append(op, a), i / 2);
        }
    }

    static MutantRunner program(int... instructions) {
        MutantRunner x = new MutantRunner();
        write(x, instructions);
        return x;
    }

    static void addTrials(MutantRunner x, int... inputs) {
        for (int i = 0; i < inputs.length; i++) {
            due("trial(" + inputs[i] + ")", x.trial(inputs[i]), i + 1);
        }
    }
}
