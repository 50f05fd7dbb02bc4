/** The edges in promises 1 to 20: each sentence that names one has a method of its own. */
public final class PromiseEdgesTest implements Codes {
    private static final int[] TEN_ADDS = {
        ADD, 0, ADD, 0, ADD, 0, ADD, 0, ADD, 0, ADD, 0, ADD, 0, ADD, 0, ADD, 0, ADD, 0,
    };
    private static final int[] TEN_BACKS = {
        BACK, 0, BACK, 0, BACK, 0, BACK, 0, BACK, 0, BACK, 0, BACK, 0, BACK, 0, BACK, 0, BACK, 0,
    };

    public static void main(String[] args) {
        promise1TheOneInstructionIn();
        promise1NoTrial();
        promise2NoInstructionUntilAppend();
        promise2NoMutants();
        promise2EveryRunIsEmpty();
        promise3NumberNotUsed();
        promise3OpOutOfRange();
        promise3NumberOutOfRange();
        promise3TenInstructions();
        promise3BadArgBeforeFull();
        promise3ItsNumber();
        promise4Size();
        promise5InputOutOfRange();
        promise6InputOutOfRange();
        promise6OneAlready();
        promise6SixTrials();
        promise6NoneBeforeFull();
        promise6BadArgBeforeFull();
        promise6NumberOfTrials();
        promise7RemovesAll();
        promise8LeastAndMost();
        promises9To16NoMutantM();
        promises9To16FirstAndLastMutant();
        promises9To16AfterAShorterProgram();
        promise11NoNumber();
        promise12BadArgBeforeNone();
        promise13FirstTrialToSixth();
        promise13NoTrial();
        promise14ByAtLeastOne();
        promise15NoneAndAll();
        promise16LeastInput();
        promise16Equal();
        promise17NoneNeeded();
        promise17AllNeeded();
        promise17LeastNumber();
        promise18Killed();
        promise18NoOther();
        promise18ProperPart();
        promise18WithoutBeingEmpty();
        promise19NoneAndAll();
        promise19WhatIsANumber();
        promise20TheTrialsStay();
        Checks.end();
    }

    private static MutantRunner withTrials(int[] trials, int... code) {
        MutantRunner x = Checks.program(code);
        Checks.addTrials(x, trials);
        return x;
    }

    private static int[] these(int... numbers) {
        return numbers;
    }

    /** "The program is the one instruction in" */
    private static void promise1TheOneInstructionIn() {
        MutantRunner x = new MutantRunner();
        Checks.due("1: size()", x.size(), 1);
        Checks.due("1: mutants()", x.mutants(), 1);
        Checks.mutantIs("1", x, 0, 0, NUM, 0);
        Checks.due("1: mutantAt(1)", x.mutantAt(1), NONE);
        Checks.due("1: outcome(-8)", x.outcome(-8), -8);
        Checks.due("1: outcome(7)", x.outcome(7), 7);
        Checks.due("1: killer(0)", x.killer(0), -8);
        Checks.due("1: equalOnes()", x.equalOnes(), 0);
        Checks.due("1: numbers()", x.numbers(), 16);
        for (int number = 1; number <= 9; number++) {
            Checks.due("1: nine more", x.append(IN, 0), number);
        }
        Checks.due("1: and no tenth", x.append(IN, 0), FULL);
    }

    /** "there is no trial" */
    private static void promise1NoTrial() {
        MutantRunner x = new MutantRunner();
        Checks.due("1: killers(0)", x.killers(0), 0);
        Checks.due("1: killed()", x.killed(), 0);
        Checks.due("1: needed()", x.needed(), 0);
        Checks.due("1: leading()", x.leading(), 0);
        // An object whose trials began as zeros would hold 0 to be one already.
        Checks.addTrials(x, 0, 1, 2, 3, 4, 5);
        Checks.due("1: another object", new MutantRunner().trial(0), 1);
    }

    /** "it has no instruction until append is called" */
    private static void promise2NoInstructionUntilAppend() {
        MutantRunner x = new MutantRunner();
        x.begin();
        Checks.due("2: size() after the first begin", x.size(), 0);
        x.begin();
        Checks.due("2: size() after begin twice", x.size(), 0);
        for (int[] bad : BAD_APPENDS) {
            Checks.due("2: a refused append", x.append(bad[0], bad[1]), BAD_ARG);
            Checks.due("2: size() after a refused append", x.size(), 0);
        }
        Checks.due("2: append", x.append(NUM, 4), 0);
        Checks.due("2: size()", x.size(), 1);
        Checks.due("2: outcome(0)", x.outcome(0), 4);
        Checks.write(x, TEN_ADDS);
        x.begin();
        Checks.due("2: size() after a full program", x.size(), 0);
        Checks.write(x, TEN_BACKS);
        Checks.due("2: full again", x.append(BACK, 0), FULL);
    }

    /** "as long as it has none, it has no mutants" */
    private static void promise2NoMutants() {
        MutantRunner x = withTrials(ALONE, SIX_ALONE);
        x.begin();
        Checks.due("2: mutants()", x.mutants(), 0);
        int[] absent = {0, 1, 16, -1, LEAST_INT, GREATEST_INT};
        for (int m : absent) {
            noMutant("2", x, m);
        }
        Checks.due("2: killed()", x.killed(), 0);
        Checks.due("2: equalOnes()", x.equalOnes(), 0);
        Checks.due("2: needed()", x.needed(), 0);
        Checks.due("2: leading()", x.leading(), 0);
        x.append(NUM, 7);
        Checks.due("2: mutants() after append", x.mutants(), 1);
        Checks.mutantIs("2", x, 0, 0, NUM, 6);
    }

    /** "and the outcome of every run is EMPTY" */
    private static void promise2EveryRunIsEmpty() {
        MutantRunner x = Checks.program(LESS_THAN_2);
        Checks.due("2: a run that leaves a number", x.outcome(1), 1);
        x.begin();
        for (int input = -8; input <= 7; input++) {
            Checks.due("2: outcome(" + input + ")", x.outcome(input), EMPTY);
        }
        Checks.due("2: numbers()", x.numbers(), 0);
        for (int input : OUTSIDE) {
            Checks.due("2: outcome(" + input + ")", x.outcome(input), BAD_ARG);
        }
    }

    /** "the number a (not used, whatever it is, by those that have none)" */
    private static void promise3NumberNotUsed() {
        int[] any = {LEAST_INT, GREATEST_INT, -9, -8, -1, 0, 1, 3, 4, 7, 8, 9, 10};
        for (int a : any) {
            for (int op = IN; op <= SWAP; op++) {
                MutantRunner x = Checks.program(NUM, 3, IN, 0);
                MutantRunner y = Checks.program(NUM, 3, IN, 0);
                String what = "3: append(" + op + ", " + a + ")";
                Checks.due(what, x.append(op, a), 2);
                y.append(op, 0);
                for (int input = -8; input <= 7; input++) {
                    Checks.due(what + ", outcome(" + input + ")", x.outcome(input), y.outcome(input));
                }
                int last = x.mutants() - 1;
                Checks.due(what + ", mutantNumber(" + last + ")", x.mutantNumber(last), 0);
                Checks.due(what + ", outcomeOf", x.outcomeOf(last, 5), y.outcomeOf(last, 5));
            }
        }
    }

    /** "op not 0 to 9 .. answers BAD_ARG" */
    private static void promise3OpOutOfRange() {
        MutantRunner x = new MutantRunner();
        int[] outside = {-1, 10, -2, 11, LEAST_INT, GREATEST_INT};
        for (int op : outside) {
            for (int a = -9; a <= 10; a++) {
                Checks.due("3: append(" + op + ", " + a + ")", x.append(op, a), BAD_ARG);
            }
            Checks.due("3: size() after append(" + op + ", ..)", x.size(), 1);
        }
        Checks.due("3: append(0, 0)", x.append(0, 0), 1);
        Checks.due("3: append(9, 0)", x.append(9, 0), 2);
    }

    /** "or a not in the range named for op 0, 8 or 9, answers BAD_ARG" */
    private static void promise3NumberOutOfRange() {
        numberFrom(NUM, -8, 7);
        numberFrom(SKIP, 0, 3);
        numberFrom(BACK, 0, 9);
    }

    private static void numberFrom(int op, int least, int greatest) {
        for (int a = -20; a <= 20; a++) {
            int want = a >= least && a <= greatest ? 1 : BAD_ARG;
            Checks.due("3: append(" + op + ", " + a + ")", new MutantRunner().append(op, a), want);
        }
        Checks.due("3: the least int", new MutantRunner().append(op, LEAST_INT), BAD_ARG);
        Checks.due("3: the greatest int", new MutantRunner().append(op, GREATEST_INT), BAD_ARG);
    }

    /** "the program has 10 instructions answers FULL" */
    private static void promise3TenInstructions() {
        MutantRunner x = Checks.program(NUM, 1, NUM, 1, NUM, 1, NUM, 1, ADD, 0, ADD, 0, ADD, 0, IN, 0, MUL, 0);
        Checks.due("3: nine instructions, outcome(7)", x.outcome(7), 28);
        Checks.due("3: the tenth", x.append(NUM, 5), 9);
        Checks.due("3: ten instructions, outcome(7)", x.outcome(7), 5);
        int mutants = x.mutants();
        for (int[] good : GOOD_APPENDS) {
            Checks.due("3: append(" + good[0] + ", " + good[1] + ")", x.append(good[0], good[1]), FULL);
            Checks.due("3: size() after FULL", x.size(), 10);
            Checks.due("3: mutants() after FULL", x.mutants(), mutants);
            Checks.due("3: outcome(7) after FULL", x.outcome(7), 5);
        }
    }

    /** "Tested in this order": both refusals hold at once. */
    private static void promise3BadArgBeforeFull() {
        MutantRunner x = Checks.program(TEN_BACKS);
        for (int[] bad : BAD_APPENDS) {
            Checks.due("3: append(" + bad[0] + ", " + bad[1] + ") when full", x.append(bad[0], bad[1]), BAD_ARG);
        }
        Checks.due("3: size()", x.size(), 10);
    }

    /** "Otherwise its number." */
    private static void promise3ItsNumber() {
        MutantRunner x = new MutantRunner();
        x.begin();
        for (int number = 0; number < 10; number++) {
            Checks.due("3: append", x.append(GOOD_APPENDS[number][0], GOOD_APPENDS[number][1]), number);
        }
        x.begin();
        Checks.due("3: append after begin", x.append(SWAP, 0), 0);
    }

    private static void promise4Size() {
        MutantRunner x = new MutantRunner();
        Checks.due("4: size() of a new object", x.size(), 1);
        x.begin();
        for (int size = 0; size < 10; size++) {
            Checks.due("4: size()", x.size(), size);
            x.append(size, 0);
        }
        Checks.due("4: size() when full", x.size(), 10);
        x.append(IN, 0);
        Checks.due("4: size() after FULL", x.size(), 10);
        x.append(IN - 2, 0);
        Checks.due("4: size() after BAD_ARG", x.size(), 10);
        x.begin();
        Checks.due("4: size() after begin", x.size(), 0);
    }

    /** "BAD_ARG if input is not -8 to 7" */
    private static void promise5InputOutOfRange() {
        int[][] codes = {{}, {IN, 0}, {NUM, 3}, {ADD, 0}, {IN, 0, BACK, 0}, {IN, 0, SKIP, 0}, TEN_ADDS};
        for (int[] code : codes) {
            MutantRunner x = Checks.program(code);
            for (int input = -8; input <= 7; input++) {
                Checks.holds("5: outcome(" + input + ") is not refused", x.outcome(input) != BAD_ARG);
            }
            for (int input : OUTSIDE) {
                Checks.due("5: outcome(" + input + ")", x.outcome(input), BAD_ARG);
            }
        }
    }

    /** "input not -8 to 7 answers BAD_ARG" */
    private static void promise6InputOutOfRange() {
        for (int input = -8; input <= 7; input++) {
            Checks.due("6: trial(" + input + ")", new MutantRunner().trial(input), 1);
        }
        MutantRunner x = new MutantRunner();
        for (int input : OUTSIDE) {
            Checks.due("6: trial(" + input + ")", x.trial(input), BAD_ARG);
            Checks.due("6: trial(" + input + ") again", x.trial(input), BAD_ARG);
        }
        Checks.due("6: the first trial after refusals", x.trial(-8), 1);
        Checks.due("6: it alone kills", x.killers(0), 1);
    }

    /** "it is one already answers NONE" */
    private static void promise6OneAlready() {
        MutantRunner x = new MutantRunner();
        int[] inputs = {0, -8, 7, -1, 1};
        for (int count = 0; count < inputs.length; count++) {
            for (int t = 0; t < count; t++) {
                Checks.due("6: trial(" + inputs[t] + ") with " + count, x.trial(inputs[t]), NONE);
            }
            Checks.due("6: trial(" + inputs[count] + ")", x.trial(inputs[count]), count + 1);
        }
        Checks.due("6: each is one once", x.killers(0), 30);
    }

    /** "there are 6 answers FULL" */
    private static void promise6SixTrials() {
        MutantRunner x = new MutantRunner();
        Checks.addTrials(x, -8, 7, 0, 1, 2);
        Checks.due("6: the sixth", x.trial(3), 6);
        for (int input = -7; input <= 6; input++) {
            if (input < 0 || input > 3) {
                Checks.due("6: trial(" + input + "), the seventh", x.trial(input), FULL);
            }
        }
        Checks.due("6: killers(0) after FULL", x.killers(0), 59);
    }

    /** "Tested in this order": one already, and there are 6. */
    private static void promise6NoneBeforeFull() {
        MutantRunner x = new MutantRunner();
        Checks.addTrials(x, ALONE);
        for (int input : ALONE) {
            Checks.due("6: trial(" + input + ") when full", x.trial(input), NONE);
        }
    }

    /** "Tested in this order": out of range, and there are 6. */
    private static void promise6BadArgBeforeFull() {
        MutantRunner x = new MutantRunner();
        Checks.addTrials(x, ALONE);
        for (int input : OUTSIDE) {
            Checks.due("6: trial(" + input + ") when full", x.trial(input), BAD_ARG);
        }
    }

    /** "Otherwise the number of trials." */
    private static void promise6NumberOfTrials() {
        MutantRunner x = new MutantRunner();
        for (int round = 0; round < 3; round++) {
            for (int count = 1; count <= 6; count++) {
                Checks.due("6: trial, the " + count + ".", x.trial(count - round), count);
            }
            x.clearTrials();
        }
    }

    /** "Removes all trials." */
    private static void promise7RemovesAll() {
        MutantRunner x = new MutantRunner();
        x.clearTrials();
        Checks.due("7: none to remove", x.trial(3), 1);
        x.clearTrials();
        Checks.due("7: killers(0) after one was removed", x.killers(0), 0);
        Checks.addTrials(x, 6, 5, 4, 3, 2, 1);
        x.clearTrials();
        x.clearTrials();
        Checks.due("7: killers(0) after six were removed", x.killers(0), 0);
        Checks.due("7: killed()", x.killed(), 0);
        Checks.due("7: needed()", x.needed(), 0);
        Checks.due("7: leading()", x.leading(), 0);
        Checks.due("7: the program stays", x.size(), 1);
        Checks.due("7: the mutants stay", x.mutants(), 1);
        Checks.addTrials(x, 1, 2, 3, 4, 5, 6);
        Checks.due("7: six again", x.trial(7), FULL);
    }

    private static void promise8LeastAndMost() {
        MutantRunner x = Checks.program();
        Checks.due("8: no instruction", x.mutants(), 0);
        Checks.write(x, BACK, 0);
        Checks.due("8: an instruction without mutants", x.mutants(), 0);
        Checks.write(x, TEN_BACKS);
        Checks.due("8: ten of them", x.mutants(), 0);
        noMutant("8", x, 0);
        Checks.write(x, TEN_ADDS);
        Checks.due("8: the most", x.mutants(), 30);
        Checks.mutantIs("8", x, 0, 0, SUB, 0);
        Checks.mutantIs("8", x, 29, 9, LESS, 0);
        noMutant("8", x, 30);
    }

    private static void noMutant(String where, MutantRunner x, int m) {
        Checks.due(where + ": mutantAt(" + m + ")", x.mutantAt(m), NONE);
        Checks.due(where + ": mutantOp(" + m + ")", x.mutantOp(m), NONE);
        Checks.due(where + ": mutantNumber(" + m + ")", x.mutantNumber(m), NONE);
        Checks.due(where + ": outcomeOf(" + m + ", 0)", x.outcomeOf(m, 0), NONE);
        Checks.due(where + ": killers(" + m + ")", x.killers(m), NONE);
        Checks.due(where + ": killer(" + m + ")", x.killer(m), NONE);
    }

    /** "NONE if there is no mutant m" */
    private static void promises9To16NoMutantM() {
        MutantRunner x = withTrials(these(1, 2), LESS_THAN_2);
        int[] absent = {-1, 6, 7, 29, 30, 31, NONE, LEAST_INT, GREATEST_INT, LEAST_INT + 1, GREATEST_INT - 1};
        for (int m : absent) {
            noMutant("9 to 16", x, m);
        }
    }

    /** The same sentence: the first and the last mutant are there. */
    private static void promises9To16FirstAndLastMutant() {
        MutantRunner x = withTrials(these(1, 2), LESS_THAN_2);
        Checks.mutantIs("9 to 11", x, 0, 0, NUM, 0);
        Checks.mutantIs("9 to 11", x, 5, 2, MUL, 0);
        Checks.due("12: outcomeOf(0, 3)", x.outcomeOf(0, 3), 1);
        Checks.due("12: outcomeOf(5, 3)", x.outcomeOf(5, 3), 6);
        Checks.due("13: killers(0)", x.killers(0), 2);
        Checks.due("13: killers(5)", x.killers(5), 3);
        Checks.due("16: killer(0)", x.killer(0), 2);
        Checks.due("16: killer(5)", x.killer(5), -8);
    }

    /** The same sentence: mutants of an earlier program are there no more. */
    private static void promises9To16AfterAShorterProgram() {
        MutantRunner x = withTrials(these(1, 2), LESS_THAN_2);
        Checks.due("9: mutantAt(5)", x.mutantAt(5), 2);
        Checks.write(x, NUM, 7);
        Checks.mutantIs("9 to 11", x, 0, 0, NUM, 6);
        for (int m = 1; m <= 6; m++) {
            noMutant("9 to 16", x, m);
        }
    }

    /** "0 if it has none": what was given to append for an instruction without one doesn't count. */
    private static void promise11NoNumber() {
        int[] any = {5, -9, LEAST_INT, GREATEST_INT};
        for (int a : any) {
            MutantRunner x = Checks.program(IN, a, DUP, a, SWAP, a, ADD, a, SUB, a, MUL, a, LESS, a);
            Checks.due("11: mutants()", x.mutants(), 15);
            for (int m = 0; m < 15; m++) {
                Checks.due("11: mutantNumber(" + m + ") after " + a, x.mutantNumber(m), 0);
            }
        }
    }

    /** "Tested in this order": input out of range, and no mutant m. */
    private static void promise12BadArgBeforeNone() {
        int[][] codes = {{}, {BACK, 0}, LESS_THAN_2};
        int[] absent = {-1, 6, LEAST_INT, GREATEST_INT};
        for (int[] code : codes) {
            MutantRunner x = Checks.program(code);
            for (int m : absent) {
                for (int input : OUTSIDE) {
                    Checks.due("12: outcomeOf(" + m + ", " + input + ")", x.outcomeOf(m, input), BAD_ARG);
                }
                Checks.due("12: outcomeOf(" + m + ", -8)", x.outcomeOf(m, -8), NONE);
                Checks.due("12: outcomeOf(" + m + ", 7)", x.outcomeOf(m, 7), NONE);
            }
        }
    }

    /** "the sum of 2 to the power of the trial's number (0 for the first trial)" */
    private static void promise13FirstTrialToSixth() {
        MutantRunner x = Checks.program(LESS_THAN_2);
        for (int place = 0; place < 6; place++) {
            x.clearTrials();
            for (int t = 0; t < 6; t++) {
                Checks.due("13: trial", x.trial(t == place ? 2 : t - 7), t + 1);
            }
            Checks.due("13: the one that kills is number " + place, x.killers(1), 1 << place);
        }
        x.clearTrials();
        Checks.addTrials(x, -8, -7, 7, 6, 5, 4);
        Checks.due("13: all six", x.killers(5), 63);
        Checks.due("13: none of six", x.killers(1), 0);
    }

    private static void promise13NoTrial() {
        MutantRunner x = Checks.program(LESS_THAN_2);
        Checks.killersAre("13: no trial", x, 0, 0, 0, 0, 0, 0);
        noMutant("13: no trial", x, 6);
    }

    /** "killed by at least one trial" */
    private static void promise14ByAtLeastOne() {
        MutantRunner x = Checks.program(SIX_ALONE);
        Checks.due("14: no trial", x.killed(), 0);
        int[] want = {4, 5, 7, 8, 9, 10};
        for (int t = 0; t < 6; t++) {
            Checks.due("14: trial", x.trial(ALONE[t]), t + 1);
            Checks.due("14: after trial(" + ALONE[t] + ")", x.killed(), want[t]);
        }
        Checks.write(x, TEN_ADDS);
        Checks.due("14: none of 30", x.killed(), 0);
        Checks.write(x, NUM, 0, NUM, 3);
        Checks.due("14: the last two of four", x.killed(), 2);
        x.begin();
        Checks.due("14: no mutant", x.killed(), 0);
    }

    private static void promise15NoneAndAll() {
        MutantRunner x = Checks.program();
        Checks.due("15: no mutant", x.equalOnes(), 0);
        Checks.write(x, TEN_ADDS);
        Checks.due("15: all of 30", x.equalOnes(), 30);
        Checks.write(x, LESS_THAN_2);
        Checks.due("15: none of 6", x.equalOnes(), 0);
        Checks.write(x, SIX_ALONE);
        Checks.due("15: 7 of 17, without a trial", x.equalOnes(), 7);
        Checks.addTrials(x, ALONE);
        Checks.due("15: 7 of 17, with six", x.equalOnes(), 7);
    }

    /** "The least input that kills mutant m if it were a trial" */
    private static void promise16LeastInput() {
        MutantRunner x = Checks.program(IN, 0, NUM, -8, LESS, 0);
        Checks.due("16: killed by -8 alone", x.killer(1), -8);
        Checks.write(x, NUM, 6, IN, 0, LESS, 0);
        Checks.due("16: killed by 7 alone", x.killer(0), 7);
        Checks.write(x, IN, 0);
        Checks.due("16: killed by all but 0", x.killer(0), -8);
        Checks.addTrials(x, 7, 6, 5, 4, 3, 2);
        Checks.due("16: -8 is no trial and there are six", x.killer(0), -8);
        Checks.due("16: the trials are as they were", x.killers(0), 63);
        Checks.write(x, SIX_ALONE);
        int[] want = {-8, -8, NONE, NONE, -4, -2, 0, 1, 4, 2, 0, NONE, NONE, -8, NONE, NONE, NONE};
        for (int m = 0; m < want.length; m++) {
            Checks.due("16: killer(" + m + ")", x.killer(m), want[m]);
        }
    }

    /** "NONE if .. it is equal" */
    private static void promise16Equal() {
        MutantRunner x = withTrials(ALONE, TEN_ADDS);
        for (int m = 0; m < 30; m++) {
            Checks.due("16: equal, killer(" + m + ")", x.killer(m), NONE);
        }
    }

    private static void promise17NoneNeeded() {
        MutantRunner x = Checks.program(LESS_THAN_2);
        Checks.due("17: no trial", x.needed(), 0);
        Checks.addTrials(x, ALONE);
        Checks.write(x, IN, 0, SKIP, 3);
        Checks.due("17: six trials that kill none", x.needed(), 0);
        Checks.write(x, TEN_ADDS);
        Checks.due("17: 30 mutants that none kills", x.needed(), 0);
        Checks.write(x, BACK, 0);
        Checks.due("17: no mutant", x.needed(), 0);
        x.begin();
        Checks.due("17: no instruction", x.needed(), 0);
    }

    private static void promise17AllNeeded() {
        MutantRunner x = Checks.program(SIX_ALONE);
        for (int t = 0; t < 6; t++) {
            Checks.due("17: trial", x.trial(ALONE[t]), t + 1);
            Checks.due("17: all of " + (t + 1), x.needed(), t + 1);
        }
    }

    /** "The least number of trials such that every mutant that is killed by some trial is killed by one of them." */
    private static void promise17LeastNumber() {
        MutantRunner x = withTrials(these(7, 6, 5, 3, -1, -8), SIX_ALONE);
        Checks.due("17: one of six that kill the same", x.needed(), 1);
        x.clearTrials();
        Checks.addTrials(x, 7, 6, 5, 3, -1, 2);
        Checks.due("17: the last alone", x.needed(), 1);
        x.clearTrials();
        Checks.addTrials(x, 7, 4, 5, 3, -1, 2);
        Checks.due("17: the second and the last", x.needed(), 2);
        x.clearTrials();
        Checks.addTrials(x, 7, -4, -2, 0, 1, 4);
        Checks.due("17: all but the first", x.needed(), 5);
        // Each of the three kills four; to begin with the first of them would lead to three.
        Checks.write(x, NUM, -4, IN, 0, LESS, 0);
        x.clearTrials();
        Checks.addTrials(x, -7, -3, -4);
        Checks.killersAre("17: is -4 less than in", x, 2, 4, 5, 7, 3, 7);
        Checks.due("17: is -4 less than in", x.needed(), 2);
    }

    /** "How many mutants m are killed" */
    private static void promise18Killed() {
        MutantRunner x = Checks.program(LESS_THAN_2);
        Checks.due("18: no trial", x.leading(), 0);
        Checks.addTrials(x, ALONE);
        Checks.write(x, TEN_ADDS);
        Checks.due("18: 30 that are not killed", x.leading(), 0);
        Checks.write(x, BACK, 0);
        Checks.due("18: no mutant", x.leading(), 0);
        x.begin();
        Checks.due("18: no instruction", x.leading(), 0);
        Checks.write(x, NUM, 7);
        Checks.due("18: the only mutant", x.leading(), 1);
        Checks.write(x, SIX_ALONE);
        Checks.due("18: the six that one trial kills", x.leading(), 6);
    }

    /** "no other mutant's set": one with the same set doesn't hinder, be it itself or another. */
    private static void promise18NoOther() {
        MutantRunner x = withTrials(these(0), NUM, 3);
        Checks.killersAre("18: two of the same set", x, 1, 1);
        Checks.due("18: two of the same set", x.leading(), 2);
        x.clearTrials();
        Checks.addTrials(x, ALONE);
        Checks.killersAre("18: two of all six", x, 63, 63);
        Checks.due("18: two of all six", x.leading(), 2);
    }

    /** "is a proper part of killers(m)" */
    private static void promise18ProperPart() {
        MutantRunner x = withTrials(these(7, -7, 0), NUM, 7, IN, 0, LESS, 0);
        Checks.killersAre("18: the first mutant hinders", x, 1, 0, 5, 6, 3);
        Checks.due("18: the first mutant hinders", x.leading(), 2);
        x = withTrials(these(-3, 1), NUM, 3, IN, 0, ADD, 0);
        Checks.killersAre("18: the last mutant hinders", x, 3, 3, 3, 3, 3, 2);
        Checks.due("18: the last mutant hinders", x.leading(), 1);
        x = withTrials(these(0, 4), SIX_ALONE);
        Checks.killersAre("18: two parts of one", x, 3, 3, 0, 0, 0, 0, 1, 0, 2, 0, 3, 0, 0, 3, 0, 0, 0);
        Checks.due("18: two parts of one", x.leading(), 2);
        x = withTrials(these(-1, 5, 2), LESS_THAN_2);
        Checks.killersAre("18: sets that meet and are no parts", x, 6, 4, 0, 6, 3, 7);
        Checks.due("18: sets that meet and are no parts", x.leading(), 2);
    }

    /** "without being empty" */
    private static void promise18WithoutBeingEmpty() {
        MutantRunner x = withTrials(these(3), NUM, 0, NUM, 3);
        Checks.killersAre("18: two empty sets", x, 0, 0, 1, 1);
        Checks.due("18: two empty sets hinder none", x.leading(), 2);
    }

    private static void promise19NoneAndAll() {
        MutantRunner x = Checks.program();
        Checks.due("19: no instruction", x.numbers(), 0);
        Checks.write(x, ADD, 0);
        Checks.due("19: always a TRAP", x.numbers(), 0);
        Checks.write(x, NUM, 1, BACK, 0);
        Checks.due("19: always TIRED", x.numbers(), 0);
        Checks.write(x, NUM, 1, SKIP, 0);
        Checks.due("19: always EMPTY", x.numbers(), 0);
        Checks.write(x, IN, 0);
        Checks.due("19: always a number", x.numbers(), 16);
        // A number for -8 alone, and then for 7 alone.
        Checks.write(x, IN, 0, NUM, -7, LESS, 0, BACK, 5, ADD, 0, IN, 0);
        Checks.due("19: -8 alone", x.numbers(), 1);
        Checks.due("19: -8 alone, outcome(-8)", x.outcome(-8), -8);
        Checks.write(x, NUM, 6, IN, 0, LESS, 0, BACK, 5, ADD, 0, IN, 0);
        Checks.due("19: 7 alone", x.numbers(), 1);
        Checks.due("19: 7 alone, outcome(7)", x.outcome(7), 7);
    }

    /** "for which the outcome of the program is a number" */
    private static void promise19WhatIsANumber() {
        MutantRunner x = Checks.program(NUM, 0);
        Checks.due("19: 0 is a number", x.numbers(), 16);
        Checks.write(x, IN, 0, IN, 0, ADD, 0, DUP, 0, DUP, 0, MUL, 0, MUL, 0);
        Checks.due("19: 1000 and -1000 are numbers", x.numbers(), 11);
        Checks.write(x, IN, 0, SKIP, 1, NUM, 5);
        Checks.due("19: EMPTY is none", x.numbers(), 1);
        Checks.write(x, IN, 0, DUP, 0, BACK, 1);
        Checks.due("19: TIRED is none", x.numbers(), 9);
    }

    /** "begin: the trials stay." */
    private static void promise20TheTrialsStay() {
        MutantRunner x = new MutantRunner();
        for (int count = 0; count < 6; count++) {
            x.begin();
            Checks.due("20: trial after begin", x.trial(ALONE[count]), count + 1);
            x.begin();
            x.begin();
            Checks.due("20: it is one still", x.trial(ALONE[count]), NONE);
        }
        x.begin();
        Checks.due("20: six still", x.trial(7), FULL);
        Checks.write(x, SIX_ALONE);
        Checks.killersAre("20: in their order", x, 63, 63, 0, 0, 1, 2, 4, 8, 16, 32, 20, 0, 0, 63, 0, 0, 0);
        x.clearTrials();
        x.begin();
        Checks.due("20: none come back", x.trial(-4), 1);
    }
}
