/** What the tests share: counting wrong answers and making programs. */
final class Checks {
    private static int wrong = 0;

    private Checks() {
    }

    static void due(String what, long got, long want) {
        if (got != want) {
            wrong++;
            System.out.println(what + " answered " + got + ", due is " + want);
        }
    }

    static void holds(String what, boolean held) {
        if (!held) {
            wrong++;
            System.out.println("does not hold: " + what);
        }
    }

    static int wrongSoFar() {
        return wrong;
    }

    static void end() {
        if (wrong != 0) {
            System.out.println(wrong + " wrong");
            System.exit(1);
        }
    }

    /** Replaces the program; the instructions are given as op, number, op, number, ... */
    static void write(MutantRunner x, int... instructions) {
        x.begin();
        for (int i = 0; i < instructions.length; i += 2) {
            int op = instructions[i];
            int a = instructions[i + 1];
            due("append(" + op + ", " + a + ")", x.append(op, a), i / 2);
        }
    }

    static MutantRunner program(int... instructions) {
        MutantRunner x = new MutantRunner();
        write(x, instructions);
        return x;
    }

    /** The outcome of a program for an input. */
    static void ends(String what, int want, int input, int... instructions) {
        due(what + " for " + input, program(instructions).outcome(input), want);
    }

    static void mutantIs(String where, MutantRunner x, int m, int at, int op, int number) {
        due(where + ": mutantAt(" + m + ")", x.mutantAt(m), at);
        due(where + ": mutantOp(" + m + ")", x.mutantOp(m), op);
        due(where + ": mutantNumber(" + m + ")", x.mutantNumber(m), number);
    }

    /** The mutants of the one instruction op a are the given ones, as op, number, op, number, ... */
    static void mutantsOf(int op, int a, int... mutants) {
        MutantRunner x = program(op, a);
        String where = "op " + op + " with " + a;
        due(where + ": mutants()", x.mutants(), mutants.length / 2);
        for (int m = 0; m < mutants.length / 2; m++) {
            mutantIs(where, x, m, 0, mutants[2 * m], mutants[2 * m + 1]);
        }
    }

    /** The sets of killers of all mutants in turn. */
    static void killersAre(String where, MutantRunner x, int... want) {
        due(where + ": mutants()", x.mutants(), want.length);
        for (int m = 0; m < want.length; m++) {
            due(where + ": killers(" + m + ")", x.killers(m), want[m]);
        }
    }

    static void addTrials(MutantRunner x, int... inputs) {
        for (int i = 0; i < inputs.length; i++) {
            due("trial(" + inputs[i] + ")", x.trial(inputs[i]), i + 1);
        }
    }
}
