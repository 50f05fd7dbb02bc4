import java.util.ArrayList;
import java.util.List;
import java.util.function.ToIntFunction;

/**
 * "No call ever throws. A refused call answers the code named and changes nothing.": each refused call is made on one
 * of two objects with the same past, and then both are asked for all that can be asked.
 */
public final class RefusalTest implements Codes {
    private static final int MOST_CALLS = 512;

    private static final int[][] CODES = {
        {},
        {IN, 0},
        {BACK, 0},
        LESS_THAN_2,
        SIX_ALONE,
        {IN, 0, NUM, -1, ADD, 0, DUP, 0, BACK, 1},
        {IN, 0, NUM, 2, LESS, 0, IN, 0, NUM, -3, LESS, 0, ADD, 0, IN, 0, SWAP, 0},
        {IN, 0, NUM, 2, LESS, 0, IN, 0, NUM, -3, LESS, 0, ADD, 0, IN, 0, SWAP, 0, SUB, 0},
        {ADD, 0, ADD, 0, ADD, 0, ADD, 0, ADD, 0, ADD, 0, ADD, 0, ADD, 0, ADD, 0, ADD, 0},
        {BACK, 0, BACK, 0, BACK, 0, BACK, 0, BACK, 0, BACK, 0, BACK, 0, BACK, 0, BACK, 0, BACK, 0},
    };

    private static final int[][] TRIALS = {{}, {2}, {1, 2, -3, -4, 0}, {-4, -2, 0, 1, 4, 2}, {-8, 7, 2, 1, -3, -4}};

    private record Call(String name, int code, ToIntFunction<MutantRunner> made) {
    }

    public static void main(String[] args) {
        for (int[] code : CODES) {
            for (int[] trials : TRIALS) {
                eachRefusalChangesNothing(code, trials);
                allRefusalsChangeNothing(code, trials);
                askingChangesNothing(code, trials);
            }
        }
        refusedCallsOfANewObject();
        fiveHundredAndTwelveCalls();
        Checks.end();
    }

    private static MutantRunner make(int[] code, int[] trials) {
        MutantRunner x = Checks.program(code);
        Checks.addTrials(x, trials);
        return x;
    }

    private static void eachRefusalChangesNothing(int[] code, int[] trials) {
        List<String> untouched = allAnswers(make(code, trials));
        for (Call call : refusedCalls(make(code, trials), code, trials)) {
            MutantRunner x = make(code, trials);
            Checks.due(call.name, call.made.applyAsInt(x), call.code);
            same("after " + call.name, allAnswers(x), untouched);
        }
    }

    private static void allRefusalsChangeNothing(int[] code, int[] trials) {
        MutantRunner x = make(code, trials);
        List<Call> calls = refusedCalls(x, code, trials);
        // So many at a time that the object's calls are not used up before it is asked.
        for (int from = 0; from < calls.size(); from += 60) {
            MutantRunner y = make(code, trials);
            for (Call call : calls.subList(from, Math.min(from + 60, calls.size()))) {
                Checks.due(call.name, call.made.applyAsInt(y), call.code);
            }
            same("after refusals from " + from, allAnswers(y), allAnswers(make(code, trials)));
        }
    }

    private static void askingChangesNothing(int[] code, int[] trials) {
        MutantRunner x = make(code, trials);
        List<String> first = new ArrayList<>();
        askOfProgram(x, first);
        List<String> second = new ArrayList<>();
        askOfProgram(x, second);
        same("asked twice", second, first);
        same("after asking", allAnswers(x), allAnswers(make(code, trials)));
    }

    private static void refusedCallsOfANewObject() {
        List<String> untouched = allAnswers(new MutantRunner());
        for (Call call : refusedCalls(new MutantRunner(), new int[] {IN, 0}, new int[0])) {
            MutantRunner x = new MutantRunner();
            Checks.due("new: " + call.name, call.made.applyAsInt(x), call.code);
            same("new: after " + call.name, allAnswers(x), untouched);
        }
    }

    /** "An object is used for at most 512 calls after it has been made": so many it must stand. */
    private static void fiveHundredAndTwelveCalls() {
        MutantRunner x = make(SIX_ALONE, ALONE);
        int made = 1 + SIX_ALONE.length / 2 + ALONE.length;
        for (int call = made; call < MOST_CALLS; call++) {
            Checks.due("call " + (call + 1) + ": needed()", x.needed(), 6);
        }
        x = new MutantRunner();
        for (int call = 0; call < MOST_CALLS; call += 2) {
            x.begin();
            Checks.due("append after begin", x.append(IN, 0), 0);
        }
        x = new MutantRunner();
        for (int call = 0; call < MOST_CALLS; call += 2) {
            x.clearTrials();
            Checks.due("trial after clearTrials", x.trial(0), 1);
        }
        x = new MutantRunner();
        for (int call = 0; call < MOST_CALLS; call++) {
            Checks.due("append", x.append(ADD, 0), call < 9 ? call + 1 : FULL);
        }
    }

    /** All that are refused for a program and trials: which ones depends on how many there are. */
    private static List<Call> refusedCalls(MutantRunner x, int[] code, int[] trials) {
        List<Call> calls = new ArrayList<>();
        addRefusedAppends(calls, code.length / 2);
        addRefusedTrials(calls, trials);
        int mutants = x.mutants();
        int[] absent = {-1, mutants, mutants + 1, 30, 31, LEAST_INT, GREATEST_INT};
        for (int m : absent) {
            addRefusedAsks(calls, m);
            calls.add(new Call("outcomeOf(" + m + ", -8)", NONE, y -> y.outcomeOf(m, -8)));
            calls.add(new Call("outcomeOf(" + m + ", 7)", NONE, y -> y.outcomeOf(m, 7)));
            calls.add(new Call("outcomeOf(" + m + ", 8)", BAD_ARG, y -> y.outcomeOf(m, 8)));
        }
        for (int input : OUTSIDE) {
            calls.add(new Call("outcome(" + input + ")", BAD_ARG, y -> y.outcome(input)));
            calls.add(new Call("outcomeOf(0, " + input + ")", BAD_ARG, y -> y.outcomeOf(0, input)));
        }
        return calls;
    }

    private static void addRefusedAppends(List<Call> calls, int size) {
        for (int[] bad : BAD_APPENDS) {
            calls.add(new Call("append(" + bad[0] + ", " + bad[1] + ")", BAD_ARG, y -> y.append(bad[0], bad[1])));
        }
        if (size == 10) {
            for (int[] good : GOOD_APPENDS) {
                calls.add(new Call("append(" + good[0] + ", " + good[1] + ")", FULL, y -> y.append(good[0], good[1])));
            }
        }
    }

    private static void addRefusedTrials(List<Call> calls, int[] trials) {
        for (int input : OUTSIDE) {
            calls.add(new Call("trial(" + input + ")", BAD_ARG, y -> y.trial(input)));
        }
        List<Integer> present = new ArrayList<>();
        for (int input : trials) {
            present.add(input);
            calls.add(new Call("trial(" + input + ")", NONE, y -> y.trial(input)));
        }
        for (int input = -8; input <= 7; input++) {
            int another = input;
            if (trials.length == 6 && !present.contains(another)) {
                calls.add(new Call("trial(" + another + ")", FULL, y -> y.trial(another)));
            }
        }
    }

    private static void addRefusedAsks(List<Call> calls, int m) {
        calls.add(new Call("mutantAt(" + m + ")", NONE, y -> y.mutantAt(m)));
        calls.add(new Call("mutantOp(" + m + ")", NONE, y -> y.mutantOp(m)));
        calls.add(new Call("mutantNumber(" + m + ")", NONE, y -> y.mutantNumber(m)));
        calls.add(new Call("killers(" + m + ")", NONE, y -> y.killers(m)));
        calls.add(new Call("killer(" + m + ")", NONE, y -> y.killer(m)));
    }

    /** What the object answers, and then what it answers when it is filled up; some 320 calls at the most. */
    private static List<String> allAnswers(MutantRunner x) {
        List<String> answers = new ArrayList<>();
        askOfProgram(x, answers);
        int mutants = x.mutants();
        for (int m = 0; m < mutants; m++) {
            answers.add("mutant " + m + ": " + x.mutantAt(m) + " " + x.mutantOp(m) + " " + x.mutantNumber(m));
            answers.add("killers " + m + ": " + x.killers(m) + " " + x.killer(m));
            answers.add("outcomes " + m + ": " + x.outcomeOf(m, -8) + " " + x.outcomeOf(m, 0) + " " + x.outcomeOf(m, 3));
        }
        for (int input = -8; input <= 7; input++) {
            answers.add("trial(" + input + "): " + x.trial(input));
        }
        for (int number = 0; number <= 10; number++) {
            answers.add("append: " + x.append(NUM, 5) + ", outcome " + x.outcome(1) + ", mutants " + x.mutants());
        }
        return answers;
    }

    private static void askOfProgram(MutantRunner x, List<String> answers) {
        answers.add("size() " + x.size() + ", mutants() " + x.mutants() + ", numbers() " + x.numbers());
        answers.add("killed() " + x.killed() + ", equalOnes() " + x.equalOnes());
        answers.add("needed() " + x.needed() + ", leading() " + x.leading());
        for (int input = -8; input <= 7; input++) {
            answers.add("outcome(" + input + "): " + x.outcome(input));
        }
    }

    private static void same(String where, List<String> got, List<String> want) {
        Checks.due(where + ", answers", got.size(), want.size());
        for (int i = 0; i < Math.min(got.size(), want.size()); i++) {
            Checks.holds(where + ": " + got.get(i) + " is " + want.get(i), got.get(i).equals(want.get(i)));
        }
    }
}
