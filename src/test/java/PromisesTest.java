/** Each promise in turn on ordinary inputs; the edges are in PromiseEdgesTest, the machine is in MachineTest. */
public final class PromisesTest implements Codes {
    public static void main(String[] args) {
        promise1NewObject();
        promise2Begin();
        promise3Append();
        promise4Size();
        promise5Outcome();
        promise6Trial();
        promise7ClearTrials();
        promises8To11Mutants();
        promise12OutcomeOf();
        promise13Killers();
        promise14Killed();
        promise15EqualOnes();
        promise16Killer();
        promise17Needed();
        promise18Leading();
        promise19Numbers();
        promise20TrialsStay();
        Checks.end();
    }

    private static void promise1NewObject() {
        MutantRunner x = new MutantRunner();
        for (int input = -8; input <= 7; input++) {
            Checks.due("1: outcome(" + input + ")", x.outcome(input), input);
        }
        Checks.due("1: append goes behind the in", x.append(NUM, 5), 1);
        Checks.due("1: first trial", x.trial(3), 1);
        MutantRunner y = new MutantRunner();
        Checks.due("1: objects are apart, size()", y.size(), 1);
        Checks.due("1: objects are apart, trial(3)", y.trial(3), 1);
    }

    private static void promise2Begin() {
        MutantRunner x = Checks.program(IN, 0, DUP, 0, ADD, 0);
        x.begin();
        Checks.due("2: size()", x.size(), 0);
        Checks.due("2: mutants()", x.mutants(), 0);
        Checks.due("2: outcome(3)", x.outcome(3), EMPTY);
        Checks.due("2: append", x.append(NUM, 4), 0);
        Checks.due("2: outcome(3) of the new program", x.outcome(3), 4);
        Checks.due("2: mutants() of the new program", x.mutants(), 2);
        Checks.mutantIs("2", x, 0, 0, NUM, 5);
    }

    private static void promise3Append() {
        for (int op = 0; op <= 9; op++) {
            MutantRunner x = new MutantRunner();
            Checks.due("3: append(" + op + ", 2)", x.append(op, 2), 1);
        }
        Checks.due("3: an unused number is not used", Checks.program(IN, 99, DUP, -99, ADD, 7).outcome(3), 6);
        Checks.due("3: append(10, 2)", new MutantRunner().append(10, 2), BAD_ARG);
    }

    private static void promise4Size() {
        MutantRunner x = Checks.program(IN, 0, DUP, 0, ADD, 0);
        Checks.due("4: size()", x.size(), 3);
        Checks.due("4: append", x.append(DUP, 0), 3);
        Checks.due("4: size() after append", x.size(), 4);
    }

    private static void promise5Outcome() {
        MutantRunner x = Checks.program(IN, 0, SKIP, 1, DUP, 0, IN, 0, BACK, 0);
        Checks.due("5: outcome(0)", x.outcome(0), TRAP);
        Checks.due("5: outcome(3)", x.outcome(3), TIRED);
        Checks.due("5: outcome(-3)", x.outcome(-3), EMPTY);
        Checks.due("5: outcome(20)", x.outcome(20), BAD_ARG);
    }

    private static void promise6Trial() {
        MutantRunner x = new MutantRunner();
        Checks.due("6: trial(20)", x.trial(20), BAD_ARG);
        Checks.due("6: trial(0)", x.trial(0), 1);
        Checks.due("6: trial(5)", x.trial(5), 2);
        Checks.due("6: trial(0) again", x.trial(0), NONE);
        Checks.due("6: trial(-3)", x.trial(-3), 3);
        // in and num 0 differ for every trial but the first, 0.
        Checks.due("6: killers(0)", x.killers(0), 6);
    }

    private static void promise7ClearTrials() {
        MutantRunner x = new MutantRunner();
        Checks.addTrials(x, 1, 2, 3);
        Checks.due("7: killers(0)", x.killers(0), 7);
        x.clearTrials();
        Checks.due("7: killers(0) without trials", x.killers(0), 0);
        Checks.due("7: trial(2) is none any more", x.trial(2), 1);
    }

    private static void promises8To11Mutants() {
        MutantRunner x = Checks.program(NUM, 3, BACK, 0, IN, 0, SUB, 0, SKIP, 3, SWAP, 0, BACK, 7);
        Checks.due("8: mutants()", x.mutants(), 9);
        int[][] want = {
            {0, NUM, 4}, {0, NUM, 2}, {2, NUM, 0}, {3, ADD, 0}, {3, MUL, 0}, {3, LESS, 0},
            {4, SKIP, 2}, {5, DUP, 0}, {6, BACK, 6},
        };
        for (int m = 0; m < want.length; m++) {
            Checks.mutantIs("9 to 11", x, m, want[m][0], want[m][1], want[m][2]);
        }
        Checks.due("9: mutantAt(20)", x.mutantAt(20), NONE);
        Checks.due("10: mutantOp(20)", x.mutantOp(20), NONE);
        Checks.due("11: mutantNumber(20)", x.mutantNumber(20), NONE);
    }

    private static void promise12OutcomeOf() {
        MutantRunner x = Checks.program(LESS_THAN_2);
        for (int input = -8; input <= 7; input++) {
            Checks.due("12: num 0 at 0", x.outcomeOf(0, input), 1);
            Checks.due("12: num 3 at 1", x.outcomeOf(1, input), input < 3 ? 1 : 0);
            Checks.due("12: num 1 at 1", x.outcomeOf(2, input), input < 1 ? 1 : 0);
            Checks.due("12: add at 2", x.outcomeOf(3, input), input + 2);
            Checks.due("12: sub at 2", x.outcomeOf(4, input), input - 2);
            Checks.due("12: mul at 2", x.outcomeOf(5, input), input * 2);
            Checks.due("12: the program is as it was", x.outcome(input), input < 2 ? 1 : 0);
        }
        Checks.due("12: outcomeOf(0, 20)", x.outcomeOf(0, 20), BAD_ARG);
        Checks.due("12: outcomeOf(20, 0)", x.outcomeOf(20, 0), NONE);
        Checks.write(x, IN, 0, BACK, 1);
        Checks.due("12: in at 0 made num 0", x.outcomeOf(0, 1), EMPTY);
        Checks.due("12: back 1 made back 0", x.outcomeOf(1, 1), TIRED);
        Checks.write(x, IN, 0, SWAP, 0);
        Checks.due("12: swap made dup", x.outcomeOf(1, 6), 6);
        Checks.write(x, DUP, 0, SKIP, 0);
        Checks.due("12: dup made in", x.outcomeOf(0, 6), EMPTY);
        Checks.due("12: a mutant that traps", x.outcomeOf(1, 6), TRAP);
    }

    private static void promise13Killers() {
        MutantRunner x = Checks.program(LESS_THAN_2);
        Checks.due("13: killers(20)", x.killers(20), NONE);
        Checks.addTrials(x, 1, 2, -1, 5);
        Checks.killersAre("13: 1 2 -1 5", x, 10, 2, 1, 11, 13, 15);
        x.clearTrials();
        Checks.addTrials(x, 5, -1, 2, 1);
        Checks.killersAre("13: 5 -1 2 1", x, 5, 4, 8, 13, 11, 15);
        Checks.due("13: trial(7)", x.trial(7), 5);
        Checks.due("13: trial(3)", x.trial(3), 6);
        Checks.killersAre("13: 5 -1 2 1 7 3", x, 53, 4, 8, 61, 59, 63);
        Checks.due("13: append", x.append(SKIP, 0), 3);
        Checks.killersAre("13: an end that hides all", x, 0, 0, 0, 0, 0, 0, 0);
    }

    private static void promise14Killed() {
        MutantRunner x = Checks.program(LESS_THAN_2);
        Checks.due("14: no trial", x.killed(), 0);
        Checks.due("14: trial(-1)", x.trial(-1), 1);
        Checks.due("14: -1", x.killed(), 2);
        Checks.due("14: trial(5)", x.trial(5), 2);
        Checks.due("14: -1 5", x.killed(), 4);
        Checks.due("14: trial(2)", x.trial(2), 3);
        Checks.due("14: -1 5 2", x.killed(), 5);
        Checks.due("14: trial(1)", x.trial(1), 4);
        Checks.due("14: -1 5 2 1", x.killed(), 6);
    }

    private static void promise15EqualOnes() {
        MutantRunner x = Checks.program(LESS_THAN_2);
        Checks.due("15: none", x.equalOnes(), 0);
        Checks.due("15: append", x.append(SKIP, 2), 3);
        Checks.due("15: a program that ends EMPTY", x.equalOnes(), 8);
        Checks.write(x, NUM, 0, NUM, 0, ADD, 0);
        Checks.due("15: sub, mul and less of 0 and 0", x.equalOnes(), 3);
        Checks.write(x, NUM, 7, IN, 0, LESS, 0);
        Checks.due("15: is 7 less than in: num 0 for in", x.killer(1), NONE);
        Checks.due("15: is 7 less than in", x.equalOnes(), 1);
        Checks.due("15: trial(3)", x.trial(3), 1);
        Checks.due("15: trials don't matter", x.equalOnes(), 1);
    }

    private static void promise16Killer() {
        MutantRunner x = Checks.program(LESS_THAN_2);
        int[] want = {2, 2, 1, -8, -8, -8};
        for (int m = 0; m < want.length; m++) {
            Checks.due("16: killer(" + m + ")", x.killer(m), want[m]);
        }
        Checks.addTrials(x, 5, 7);
        Checks.due("16: trials don't matter", x.killer(0), 2);
        Checks.due("16: trials are not changed", x.killers(0), 3);
        Checks.due("16: append", x.append(SKIP, 0), 3);
        for (int m = 0; m < 7; m++) {
            Checks.due("16: equal, killer(" + m + ")", x.killer(m), NONE);
        }
    }

    private static void promise17Needed() {
        MutantRunner x = Checks.program(LESS_THAN_2);
        Checks.addTrials(x, -1, 5);
        Checks.due("17: -1 5", x.needed(), 1);
        Checks.due("17: trial(2)", x.trial(2), 3);
        Checks.due("17: -1 5 2", x.needed(), 2);
        Checks.due("17: trial(1)", x.trial(1), 4);
        Checks.due("17: -1 5 2 1", x.needed(), 2);
        // Two borders: each of 2, 1, -3 and -4 is the only one to kill a mutant of a num.
        Checks.write(x, IN, 0, NUM, 2, LESS, 0, IN, 0, NUM, -3, LESS, 0, ADD, 0);
        x.clearTrials();
        Checks.addTrials(x, 2, 1, -3, -4);
        Checks.due("17: two borders", x.needed(), 4);
        Checks.due("17: two borders, trial(7)", x.trial(7), 5);
        Checks.due("17: two borders and one trial more", x.needed(), 4);
        Checks.write(x, NUM, 7, IN, 0, LESS, 0);
        x.clearTrials();
        Checks.addTrials(x, 7, 1);
        Checks.killersAre("17: the first mutant counts", x, 1, 0, 3, 2, 3);
        Checks.due("17: the first mutant counts", x.needed(), 2);
    }

    private static void promise18Leading() {
        MutantRunner x = Checks.program(LESS_THAN_2);
        Checks.addTrials(x, -1, 5);
        // Sets 2, 0, 0, 2, 3, 3: equal sets don't hinder each other, and empty ones hinder none.
        Checks.due("18: -1 5", x.leading(), 2);
        Checks.due("18: trial(2)", x.trial(2), 3);
        // Sets 6, 4, 0, 6, 3, 7: neither of 4 and 3 is a part of the other.
        Checks.due("18: -1 5 2", x.leading(), 2);
        Checks.write(x, NUM, 3, IN, 0, MUL, 0);
        x.clearTrials();
        Checks.addTrials(x, 0);
        Checks.due("18: 3 * in, 0", x.leading(), 2);
        Checks.due("18: trial(1)", x.trial(1), 2);
        Checks.killersAre("18: 3 * in, 0 1", x, 2, 2, 2, 3, 3, 2);
        Checks.due("18: 3 * in, 0 1", x.leading(), 4);
        x.begin();
        Checks.due("18: sets of an earlier program don't count", x.leading(), 0);
        Checks.due("18: append", x.append(NUM, 7), 0);
        Checks.due("18: one mutant", x.leading(), 1);
    }

    private static void promise19Numbers() {
        MutantRunner x = Checks.program(IN, 0, SKIP, 1, NUM, 5);
        Checks.due("19: EMPTY but for 0", x.numbers(), 1);
        Checks.write(x, IN, 0, DUP, 0, BACK, 1);
        Checks.due("19: TIRED if greater than 0", x.outcome(1), TIRED);
        Checks.due("19: TIRED for 1 to 7", x.numbers(), 9);
        Checks.write(x, IN, 0, DUP, 0, MUL, 0, DUP, 0, MUL, 0);
        Checks.due("19: TRAP for -8 to -6, 6 and 7", x.numbers(), 11);
    }

    private static void promise20TrialsStay() {
        MutantRunner x = new MutantRunner();
        Checks.addTrials(x, 1, 2, -1, 5);
        x.begin();
        Checks.due("20: trial(2) is one still", x.trial(2), NONE);
        Checks.due("20: trial(7)", x.trial(7), 5);
        Checks.write(x, LESS_THAN_2);
        Checks.killersAre("20: the trials in their order", x, 26, 2, 1, 27, 29, 31);
    }
}
