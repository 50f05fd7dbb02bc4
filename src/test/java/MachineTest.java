/** Promise 5 and the machine of the document's Terms on ordinary programs; their edges are in TermsEdgesTest. */
public final class MachineTest implements Codes {
    public static void main(String[] args) {
        instructions();
        skips();
        backs();
        runsAreApart();
        Checks.end();
    }

    private static void instructions() {
        Checks.ends("num", 4, 3, NUM, 4);
        Checks.ends("in", 3, 3, IN, 0);
        Checks.ends("add", 9, 5, IN, 0, NUM, 4, ADD, 0);
        Checks.ends("sub is x - y", 1, 5, IN, 0, NUM, 4, SUB, 0);
        Checks.ends("mul", -20, -5, IN, 0, NUM, 4, MUL, 0);
        Checks.ends("less is x < y", 1, 3, IN, 0, NUM, 4, LESS, 0);
        Checks.ends("less of a greater one", 0, 7, IN, 0, NUM, 4, LESS, 0);
        Checks.ends("dup", 6, 3, IN, 0, DUP, 0, ADD, 0);
        Checks.ends("swap", 1, 5, NUM, 4, IN, 0, SWAP, 0, SUB, 0);
        Checks.ends("swap leaves the one below on top", 4, 5, NUM, 4, IN, 0, SWAP, 0);
        Checks.ends("add takes both off", 1, 5, NUM, 1, NUM, 2, NUM, 3, ADD, 0, SKIP, 0);
    }

    private static void skips() {
        for (int k = 0; k <= 3; k++) {
            int[] addOnes = {NUM, 1, NUM, 1, NUM, 1, NUM, 1, IN, 0, SKIP, k, ADD, 0, ADD, 0, ADD, 0};
            Checks.ends("skip " + k + " with 0", 4, 0, addOnes);
            Checks.ends("skip " + k + " with 3", 4 - k, 3, addOnes);
            Checks.ends("skip " + k + " with -8", 4 - k, -8, addOnes);
        }
        Checks.ends("skip 1 leaves one out", 5, 1, IN, 0, SKIP, 1, ADD, 0, NUM, 5);
        Checks.ends("skip 1 with 0 leaves none out", TRAP, 0, IN, 0, SKIP, 1, ADD, 0, NUM, 5);
    }

    private static void backs() {
        int[] countDown = {IN, 0, NUM, -1, ADD, 0, DUP, 0, BACK, 1};
        for (int input = -8; input <= 1; input++) {
            Checks.ends("count down", input - 1, input, countDown);
        }
        for (int input = 1; input <= 7; input++) {
            Checks.ends("count down", 0, input, countDown);
        }
        Checks.ends("back goes on at k, also further on", 5, 1, IN, 0, BACK, 3, ADD, 0, NUM, 5);
        Checks.ends("back to itself", TRAP, 1, IN, 0, BACK, 1);
        Checks.ends("back to 0 for ever", TIRED, 1, IN, 0, BACK, 0);
        Checks.ends("back to 0 with a growing pile", TRAP, 1, IN, 0, IN, 0, BACK, 0);
    }

    private static void runsAreApart() {
        MutantRunner x = Checks.program(IN, 0, SKIP, 1, NUM, 4);
        Checks.due("a number is left", x.outcome(0), 4);
        Checks.due("the next run begins with an empty pile", x.outcome(1), EMPTY);
        Checks.due("and again", x.outcome(0), 4);
    }
}
