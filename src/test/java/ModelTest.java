import java.util.ArrayDeque;
import java.util.ArrayList;
import java.util.Deque;
import java.util.HashSet;
import java.util.List;
import java.util.Set;

/** Every answer is compared with a second program, written for the document's words and not for speed. */
public final class ModelTest {
    private static final int OBJECTS = 400;
    private static final int CALLS = 512;

    private long seed = 20261115L;

    public static void main(String[] args) {
        allShortPrograms();
        new ModelTest().longRuns();
        Checks.end();
    }

    private static final class Model {
        final List<int[]> program = new ArrayList<>();
        final List<Integer> trials = new ArrayList<>();

        Model() {
            program.add(new int[] {1, 0});
        }

        static int run(List<int[]> code, int input) {
            Deque<Integer> pile = new ArrayDeque<>();
            int at = 0;
            for (int executed = 0; at < code.size(); executed++) {
                if (executed == 40) {
                    return MutantRunner.TIRED;
                }
                int op = code.get(at)[0];
                int number = code.get(at)[1];
                int takes = op < 2 ? 0 : op < 6 || op == 7 ? 2 : 1;
                if (pile.size() < takes) {
                    return MutantRunner.TRAP;
                }
                int y = takes > 0 ? pile.pop() : 0;
                int x = takes > 1 ? pile.pop() : 0;
                int[][] puts = {
                    {number}, {input}, {x + y}, {x - y}, {x * y}, {x < y ? 1 : 0}, {y, y}, {y, x}, {}, {},
                };
                for (int put : puts[op]) {
                    if (pile.size() == 6 || Math.abs(put) > 1000) {
                        return MutantRunner.TRAP;
                    }
                    pile.push(put);
                }
                at = op == 9 && y > 0 ? number : op == 8 && y != 0 ? at + 1 + number : at + 1;
            }
            return pile.isEmpty() ? MutantRunner.EMPTY : pile.peek();
        }

        /** Each mutant as place, op, number. */
        List<int[]> mutants() {
            List<int[]> all = new ArrayList<>();
            for (int place = 0; place < program.size(); place++) {
                int op = program.get(place)[0];
                int number = program.get(place)[1];
                if (op == 0 && number < 7 || op == 8 && number < 3) {
                    all.add(new int[] {place, op, number + 1});
                }
                if (op == 0 && number > -8 || op >= 8 && number > 0) {
                    all.add(new int[] {place, op, number - 1});
                }
                if (op == 1) {
                    all.add(new int[] {place, 0, 0});
                }
                for (int other = 2; other <= 5; other++) {
                    if (op >= 2 && op <= 5 && op != other) {
                        all.add(new int[] {place, other, 0});
                    }
                }
                if (op == 6 || op == 7) {
                    all.add(new int[] {place, op == 6 ? 1 : 6, 0});
                }
            }
            return all;
        }

        int outcomeOf(int m, int input) {
            int[] mutant = mutants().get(m);
            List<int[]> code = new ArrayList<>(program);
            code.set(mutant[0], new int[] {mutant[1], mutant[2]});
            return run(code, input);
        }

        boolean kills(int m, int input) {
            return outcomeOf(m, input) != run(program, input);
        }

        List<Set<Integer>> killerSets() {
            List<Set<Integer>> sets = new ArrayList<>();
            for (int m = 0; m < mutants().size(); m++) {
                Set<Integer> set = new HashSet<>();
                for (int t = 0; t < trials.size(); t++) {
                    if (kills(m, trials.get(t))) {
                        set.add(t);
                    }
                }
                sets.add(set);
            }
            return sets;
        }

        int killer(int m) {
            for (int input = -8; input <= 7; input++) {
                if (kills(m, input)) {
                    return input;
                }
            }
            return MutantRunner.NONE;
        }

        int equalOnes() {
            int equal = 0;
            for (int m = 0; m < mutants().size(); m++) {
                equal += killer(m) == MutantRunner.NONE ? 1 : 0;
            }
            return equal;
        }

        static int mask(Set<Integer> set) {
            return set.stream().mapToInt(t -> 1 << t).sum();
        }

        int needed() {
            int least = 6;
            for (int chosen = 0; chosen < 64; chosen++) {
                final int choice = chosen;
                boolean all = killerSets().stream().allMatch(s -> s.isEmpty() || (mask(s) & choice) != 0);
                if (all) {
                    least = Math.min(least, Integer.bitCount(chosen));
                }
            }
            return least;
        }

        int leading() {
            List<Set<Integer>> sets = killerSets();
            int found = 0;
            for (Set<Integer> set : sets) {
                boolean hindered = sets.stream()
                    .anyMatch(s -> !s.isEmpty() && s.size() < set.size() && set.containsAll(s));
                found += set.isEmpty() || hindered ? 0 : 1;
            }
            return found;
        }

        int append(int op, int a) {
            boolean numbered = op == 0 || op == 8 || op == 9;
            int least = op == 0 ? -8 : 0;
            int greatest = op == 0 ? 7 : op == 8 ? 3 : 9;
            if (op < 0 || op > 9 || numbered && (a < least || a > greatest)) {
                return MutantRunner.BAD_ARG;
            }
            if (program.size() == 10) {
                return MutantRunner.FULL;
            }
            program.add(new int[] {op, numbered ? a : 0});
            return program.size() - 1;
        }

        int trial(int input) {
            if (input < -8 || input > 7) {
                return MutantRunner.BAD_ARG;
            }
            if (trials.contains(input)) {
                return MutantRunner.NONE;
            }
            if (trials.size() == 6) {
                return MutantRunner.FULL;
            }
            trials.add(input);
            return trials.size();
        }

        int numbers() {
            int found = 0;
            for (int input = -8; input <= 7; input++) {
                found += run(program, input) <= 1000 ? 1 : 0;
            }
            return found;
        }
    }

    /** All programs of three instructions, whose numbers are those at the edges and a few between. */
    private static void allShortPrograms() {
        int[][] all = {
            {0, -8}, {0, -1}, {0, 0}, {0, 2}, {0, 7}, {1, 0}, {2, 0}, {3, 0}, {4, 0}, {5, 0}, {6, 0}, {7, 0},
            {8, 0}, {8, 1}, {8, 3}, {9, 0}, {9, 1}, {9, 2}, {9, 3}, {9, 9},
        };
        for (int[] first : all) {
            for (int[] second : all) {
                for (int[] third : all) {
                    MutantRunner x = new MutantRunner();
                    Checks.write(x, first[0], first[1], second[0], second[1], third[0], third[1]);
                    compareOutcomes(x, List.of(first, second, third));
                }
            }
        }
    }

    private static void compareOutcomes(MutantRunner x, List<int[]> code) {
        for (int input = -8; input <= 7; input++) {
            int got = x.outcome(input);
            int want = Model.run(code, input);
            if (got != want) {
                Checks.due("outcome(" + input + ") of a short program", got, want);
            }
        }
    }

    private void longRuns() {
        for (int object = 0; object < OBJECTS && Checks.wrongSoFar() < 20; object++) {
            MutantRunner x = new MutantRunner();
            Model model = new Model();
            for (int call = 0; call < CALLS; call++) {
                oneCall("object " + object + ", call " + call + ": ", x, model);
            }
        }
    }

    /** A fixed row of numbers, so that every run of the test is the same. */
    private int pick(int least, int greatest) {
        seed = seed * 6364136223846793005L + 1442695040888963407L;
        return least + (int) ((seed >>> 33) % (greatest - least + 1));
    }

    private void oneCall(String where, MutantRunner x, Model model) {
        int kind = pick(0, 99);
        if (kind < 3) {
            x.begin();
            model.program.clear();
        } else if (kind < 40) {
            appendOne(where, x, model);
        } else if (kind < 50) {
            int input = pick(-9, 8);
            Checks.due(where + "trial(" + input + ")", x.trial(input), model.trial(input));
        } else if (kind < 52) {
            x.clearTrials();
            model.trials.clear();
        } else if (kind < 75) {
            askOfMutant(where, x, model);
        } else {
            askOfAll(where, x, model);
        }
    }

    private void appendOne(String where, MutantRunner x, Model model) {
        int op = pick(0, 3) == 0 ? pick(0, 1) : pick(-1, 10);
        int a = op == 8 ? pick(-1, 4) : op == 9 ? pick(-1, 10) : pick(-9, 8);
        Checks.due(where + "append(" + op + ", " + a + ")", x.append(op, a), model.append(op, a));
    }

    private void askOfMutant(String where, MutantRunner x, Model model) {
        List<int[]> mutants = model.mutants();
        int m = pick(-1, mutants.size());
        int input = pick(-9, 8);
        boolean present = m >= 0 && m < mutants.size();
        int none = MutantRunner.NONE;
        switch (pick(0, 5)) {
            case 0:
                Checks.due(where + "mutantAt(" + m + ")", x.mutantAt(m), present ? mutants.get(m)[0] : none);
                break;
            case 1:
                Checks.due(where + "mutantOp(" + m + ")", x.mutantOp(m), present ? mutants.get(m)[1] : none);
                break;
            case 2:
                Checks.due(where + "mutantNumber(" + m + ")", x.mutantNumber(m), present ? mutants.get(m)[2] : none);
                break;
            case 3:
                int want = input < -8 || input > 7 ? MutantRunner.BAD_ARG : present ? model.outcomeOf(m, input) : none;
                Checks.due(where + "outcomeOf(" + m + ", " + input + ")", x.outcomeOf(m, input), want);
                break;
            case 4:
                int set = present ? Model.mask(model.killerSets().get(m)) : none;
                Checks.due(where + "killers(" + m + ")", x.killers(m), set);
                break;
            default:
                Checks.due(where + "killer(" + m + ")", x.killer(m), present ? model.killer(m) : none);
                break;
        }
    }

    private void askOfAll(String where, MutantRunner x, Model model) {
        switch (pick(0, 7)) {
            case 0:
                Checks.due(where + "size()", x.size(), model.program.size());
                break;
            case 1:
                int input = pick(-9, 8);
                int want = input < -8 || input > 7 ? MutantRunner.BAD_ARG : Model.run(model.program, input);
                Checks.due(where + "outcome(" + input + ")", x.outcome(input), want);
                break;
            case 2:
                Checks.due(where + "mutants()", x.mutants(), model.mutants().size());
                break;
            case 3:
                long killed = model.killerSets().stream().filter(s -> !s.isEmpty()).count();
                Checks.due(where + "killed()", x.killed(), killed);
                break;
            case 4:
                Checks.due(where + "equalOnes()", x.equalOnes(), model.equalOnes());
                break;
            case 5:
                Checks.due(where + "needed()", x.needed(), model.needed());
                break;
            case 6:
                Checks.due(where + "leading()", x.leading(), model.leading());
                break;
            default:
                Checks.due(where + "numbers()", x.numbers(), model.numbers());
                break;
        }
    }
}
