import java.util.Arrays;
import java.util.function.Supplier;

/** What the tests of edges share: a count of wrong answers, wrong arguments, and all that an object answers. */
final class Checks {
    static final int EMPTY = 0;
    static final int[] COUNTS_OF_PRINCIPALS = {1, 2, 3, 4, 5, 6};

    private static String sentence = "";
    private static int sentences = 0;
    private static int wrong = 0;

    private Checks() {
    }

    /** Runs the test of one sentence of the document; what goes wrong in it is told with that sentence. */
    static void sentence(String words, Runnable test) {
        sentence = words;
        sentences++;
        try {
            test.run();
        } catch (RuntimeException e) {
            fault("a call threw " + e);
        }
    }

    static void due(String call, int got, int want) {
        if (got != want) {
            fault(call + " answered " + got + ", due is " + want);
        }
    }

    static void due(String call, boolean got, boolean want) {
        if (got != want) {
            fault(call + " answered " + got + ", due is " + want);
        }
    }

    private static void fault(String what) {
        wrong++;
        System.out.println("[" + sentence + "] " + what);
    }

    static void end() {
        System.out.println(sentences + " sentences, " + wrong + " wrong answers");
        if (wrong != 0 || sentences == 0) {
            System.exit(1);
        }
    }

    static int one(int a) {
        return 1 + a;
    }

    static int two(int a, int b) {
        return 4 + 3 * a + b;
    }

    /**
     * Numbers that are not 0 .. bound - 1: just outside, far outside, and those that a shift or a
     * cast to a shorter type would take back inside.
     */
    static int[] outside(int bound) {
        return new int[] {
            -1, bound, bound + 1, -bound, 31, 32, 32 + bound - 1, -32, 256, 65536, 65536 + bound - 1,
            Integer.MIN_VALUE, Integer.MIN_VALUE + bound - 1, Integer.MAX_VALUE, Integer.MAX_VALUE - 1,
        };
    }

    /** The first and the last of 0 .. bound - 1. */
    static int[] insideEdges(int bound) {
        return new int[] {0, bound - 1};
    }

    /** Taken certificates, each (k, n, p, path), in the order of their numbers. */
    static NameResolver with(int principals, int[]... certificates) {
        NameResolver r = new NameResolver(principals);
        for (int id = 0; id < certificates.length; id++) {
            int[] c = certificates[id];
            due("certify " + Arrays.toString(c) + " in the set-up", r.certify(c[0], c[1], c[2], c[3]), id);
        }
        return r;
    }

    static int[] cert(int k, int n, int p, int path) {
        return new int[] {k, n, p, path};
    }

    /** An object of six principals with ten certificates and six grants that rest on one another. */
    static NameResolver full() {
        NameResolver r = with(6,
                cert(0, 0, 1, EMPTY), cert(0, 0, 2, EMPTY), cert(1, 1, 3, EMPTY), cert(2, 1, 4, EMPTY),
                cert(0, 1, 0, two(0, 1)), cert(0, 2, 0, one(1)), cert(5, 2, 0, one(2)), cert(0, 2, 3, EMPTY),
                cert(4, 0, 5, two(2, 0)), cert(3, 0, 5, EMPTY));
        due("grant 0 in the set-up", r.grant(5, 0, one(0), true), 0);
        due("grant 1 in the set-up", r.grant(1, 0, one(1), true), 1);
        due("grant 2 in the set-up", r.grant(3, 5, EMPTY, false), 2);
        due("grant 3 in the set-up", r.grant(4, 0, EMPTY, true), 3);
        due("grant 4 in the set-up", r.grant(0, 5, two(2, 0), true), 4);
        due("grant 5 in the set-up", r.grant(2, 2, EMPTY, false), 5);
        return r;
    }

    /** As full(), with certificates 3 and 8 and grants 1 and 4 taken back. */
    static NameResolver withGaps() {
        NameResolver r = full();
        due("revoke(3) in the set-up", r.revoke(3), true);
        due("revoke(8) in the set-up", r.revoke(8), true);
        due("withdraw(1) in the set-up", r.withdraw(1), true);
        due("withdraw(4) in the set-up", r.withdraw(4), true);
        return r;
    }

    /**
     * Every answer about the state, asked of several objects made alike, so that none of them is used
     * for more than 512 calls.
     */
    static int[] allAnswers(Supplier<NameResolver> made) {
        int[] answers = new int[1000];
        int at = answersOfNames(made.get(), answers, 0);
        at = answersOfTrust(made.get(), answers, at);
        at = answersOfSubjects(made.get(), answers, at);
        at = numbersToCome(made.get(), answers, at);
        return Arrays.copyOf(answers, at);
    }

    static boolean sameAnswers(Supplier<NameResolver> made, Supplier<NameResolver> other) {
        return Arrays.equals(allAnswers(made), allAnswers(other));
    }

    private static int answersOfNames(NameResolver r, int[] answers, int from) {
        int at = from;
        for (int k = 0; k < 6; k++) {
            for (int n = 0; n < 3; n++) {
                answers[at++] = r.members(k, n);
                for (int x = 0; x < 6; x++) {
                    answers[at++] = r.cost(k, n, x);
                    answers[at++] = r.witness(k, n, x);
                }
            }
        }
        for (int id = 0; id < 10; id++) {
            answers[at++] = r.matters(id) ? 1 : 0;
        }
        return at;
    }

    private static int answersOfTrust(NameResolver r, int[] answers, int from) {
        int at = from;
        answers[at++] = r.certificates();
        answers[at++] = r.grants();
        for (int k = 0; k < 6; k++) {
            answers[at++] = r.trusted(k);
            for (int x = 0; x < 6; x++) {
                answers[at++] = r.trustCost(k, x);
            }
        }
        return at;
    }

    private static int answersOfSubjects(NameResolver r, int[] answers, int from) {
        int at = from;
        for (int p = 0; p < 6; p++) {
            for (int path = 0; path < 13; path++) {
                for (int x = 0; x < 6; x++) {
                    answers[at++] = r.denotes(p, path, x);
                }
            }
        }
        return at;
    }

    /** The numbers that would be given out next, until nothing more is taken. */
    private static int numbersToCome(NameResolver r, int[] answers, int from) {
        int at = from;
        for (int i = 0; i < 11; i++) {
            answers[at++] = r.certify(0, 0, 0, one(0));
        }
        for (int i = 0; i < 7; i++) {
            answers[at++] = r.grant(0, 0, one(0), false);
        }
        return at;
    }
}
