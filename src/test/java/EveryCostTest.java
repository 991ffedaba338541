/**
 * The Terms taken word by word: for every membership all the costs are found at which it holds, not
 * the least alone, and so for subjects and for rows of grants. Neither the class nor ModelTest's model
 * goes this way; both take it that the least costs are enough.
 */
public final class EveryCostTest {
    private static final int STATES = 120;
    private static final int GREATEST_COST = 999;
    private static final int PATHS = 13;

    private static long seed = 20261116L;
    private static int state = 0;
    private static int wrong = 0;
    private static int greatestSeen = 0;

    public static void main(String[] args) {
        for (state = 0; state < STATES; state++) {
            State made = state % 3 == 0 ? nearDear() : anyState();
            names(made);
            subjects(made);
            trust(made);
        }
        if (greatestSeen < 900) {
            wrong++;
            System.out.println("the states come no further than cost " + greatestSeen + ": they are too tame");
        }
        System.out.println(wrong == 0 ? "all answers are as the Terms say" : wrong + " answers are not as the Terms say");
        if (wrong != 0) {
            System.exit(1);
        }
    }

    private static void due(String call, int got, int want) {
        if (got != want) {
            wrong++;
            if (wrong <= 20) {
                System.out.println("state " + state + ": " + call + " answered " + got + ", due is " + want);
            }
        }
    }

    private static int below(int bound) {
        seed = seed * 6364136223846793005L + 1442695040888963407L;
        return (int) ((seed >>> 33) % bound);
    }

    private static int anyPath() {
        return below(3) == 0 ? 0 : below(PATHS);
    }

    private static State anyState() {
        int principals = below(2) == 0 ? 6 : 1 + below(6);
        int[][] certificates = new int[below(11)][];
        for (int i = 0; i < certificates.length; i++) {
            certificates[i] = new int[] {below(principals), below(3), below(principals), anyPath()};
        }
        int[][] grants = new int[below(7)][];
        for (int i = 0; i < grants.length; i++) {
            grants[i] = new int[] {below(principals), below(principals), anyPath(), below(3)};
        }
        return new State(principals, certificates, grants);
    }

    /** A dear set with at most two of its certificates changed, and sometimes its grants. */
    private static State nearDear() {
        int[] from = Dear.CERTIFICATES[below(Dear.CERTIFICATES.length)];
        int[][] certificates = new int[10][];
        for (int i = 0; i < 10; i++) {
            certificates[i] = new int[] {from[4 * i], from[4 * i + 1], from[4 * i + 2], from[4 * i + 3]};
        }
        int changes = below(3);
        for (int i = 0; i < changes; i++) {
            certificates[below(10)][3] = anyPath();
        }
        int[][] grants = new int[5][];
        for (int i = 0; i < 5; i++) {
            grants[i] = new int[] {Dear.GRANTS[3 * i], Dear.GRANTS[3 * i + 1], Dear.GRANTS[3 * i + 2], 1};
        }
        grants[below(5)][2] = anyPath();
        return new State(6, certificates, grants);
    }

    private static void names(State s) {
        NameResolver r = s.make();
        for (int k = 0; k < s.principals; k++) {
            for (int n = 0; n < 3; n++) {
                int members = 0;
                for (int x = 0; x < s.principals; x++) {
                    int least = s.member[k][n][x].least();
                    members |= least == -1 ? 0 : 1 << x;
                    greatestSeen = Math.max(greatestSeen, least);
                    due("cost(" + k + ", " + n + ", " + x + ")", r.cost(k, n, x), least);
                    due("witness(" + k + ", " + n + ", " + x + ")", r.witness(k, n, x), s.witness(k, n, x, least));
                }
                due("members(" + k + ", " + n + ")", r.members(k, n), members);
            }
        }
        for (int id = 0; id < 10; id++) {
            due("matters(" + id + ")", r.matters(id) ? 1 : 0, s.matters(id) ? 1 : 0);
        }
    }

    private static void subjects(State s) {
        NameResolver r = s.make();
        for (int p = 0; p < s.principals; p++) {
            for (int path = 0; path < PATHS; path++) {
                for (int x = 0; x < s.principals; x++) {
                    int least = s.leastDenoting(p, path, x);
                    greatestSeen = Math.max(greatestSeen, least);
                    due("denotes(" + p + ", " + path + ", " + x + ")", r.denotes(p, path, x), least);
                }
            }
        }
    }

    private static void trust(State s) {
        NameResolver r = s.make();
        for (int k = 0; k < s.principals; k++) {
            Costs[] rows = s.trust(k);
            int trusted = 0;
            for (int x = 0; x < s.principals; x++) {
                int least = rows[x].least();
                trusted |= least == -1 ? 0 : 1 << x;
                greatestSeen = Math.max(greatestSeen, least);
                due("trustCost(" + k + ", " + x + ")", r.trustCost(k, x), least);
            }
            due("trusted(" + k + ")", r.trusted(k), trusted);
        }
    }

    /** All the costs, up to the greatest that counts, at which one thing holds; found in rising order. */
    private static final class Costs {
        private final boolean[] at = new boolean[GREATEST_COST + 1];
        private final int[] rising = new int[GREATEST_COST + 1];
        private int size = 0;

        boolean has(int c) {
            return c >= 0 && at[c];
        }

        void add(int c) {
            if (!at[c]) {
                at[c] = true;
                rising[size++] = c;
            }
        }

        int least() {
            return size == 0 ? -1 : rising[0];
        }

        /** Whether one cost of this and one of the other make c together. */
        boolean makes(int c, Costs other) {
            for (int i = 0; i < size && rising[i] <= c; i++) {
                if (other.has(c - rising[i])) {
                    return true;
                }
            }
            return false;
        }
    }

    private static Costs[] noCosts(int length) {
        Costs[] all = new Costs[length];
        for (int i = 0; i < length; i++) {
            all[i] = new Costs();
        }
        return all;
    }

    /** Certificates (k, n, p, path) and grants (k, p, path, not 0 when open). */
    private static final class State {
        final int principals;
        private final int[][] certificates;
        private final int[][] grants;
        final Costs[][][] member;

        State(int principals, int[][] certificates, int[][] grants) {
            this.principals = principals;
            this.certificates = certificates;
            this.grants = grants;
            this.member = new Costs[principals][3][];
            for (Costs[][] names : member) {
                for (int n = 0; n < 3; n++) {
                    names[n] = noCosts(principals);
                }
            }
            for (int c = 1; c <= GREATEST_COST; c++) {
                for (int[] one : certificates) {
                    for (int x = 0; x < principals && one != null; x++) {
                        if (denotesAt(one[2], one[3], x, c - 1)) {
                            member[one[0]][one[1]][x].add(c);
                        }
                    }
                }
            }
        }

        NameResolver make() {
            NameResolver r = new NameResolver(principals);
            for (int id = 0; id < certificates.length; id++) {
                int[] c = certificates[id];
                due("certify", r.certify(c[0], c[1], c[2], c[3]), id);
            }
            for (int id = 0; id < grants.length; id++) {
                int[] g = grants[id];
                due("grant", r.grant(g[0], g[1], g[2], g[3] != 0), id);
            }
            return r;
        }

        boolean denotesAt(int p, int path, int x, int c) {
            if (path == 0) {
                return p == x && c == 0;
            }
            if (path <= 3) {
                return member[p][path - 1][x].has(c);
            }
            for (int q = 0; q < principals; q++) {
                if (member[p][(path - 4) / 3][q].makes(c, member[q][(path - 4) % 3][x])) {
                    return true;
                }
            }
            return false;
        }

        int leastDenoting(int p, int path, int x) {
            for (int c = 0; c <= GREATEST_COST; c++) {
                if (denotesAt(p, path, x, c)) {
                    return c;
                }
            }
            return -1;
        }

        int witness(int k, int n, int x, int cost) {
            for (int id = 0; id < certificates.length && cost != -1; id++) {
                int[] c = certificates[id];
                if (c[0] == k && c[1] == n && denotesAt(c[2], c[3], x, cost - 1)) {
                    return id;
                }
            }
            return -1;
        }

        boolean matters(int id) {
            if (id >= certificates.length) {
                return false;
            }
            int[][] others = certificates.clone();
            others[id] = null;
            State without = new State(principals, others, grants);
            for (int k = 0; k < principals; k++) {
                for (int n = 0; n < 3; n++) {
                    for (int x = 0; x < principals; x++) {
                        if (member[k][n][x].least() != -1 && without.member[k][n][x].least() == -1) {
                            return true;
                        }
                    }
                }
            }
            return false;
        }

        /** For every x the costs of all rows from k to it, found together with those of the open rows. */
        Costs[] trust(int k) {
            Costs[][] steps = steps();
            Costs[] rows = noCosts(principals);
            Costs[] openRows = noCosts(principals);
            openRows[k].add(0);
            for (int c = 1; c <= GREATEST_COST; c++) {
                for (int id = 0; id < grants.length; id++) {
                    for (int x = 0; x < principals; x++) {
                        if (openRows[grants[id][0]].makes(c - 1, steps[id][x])) {
                            rows[x].add(c);
                            addOpen(id, openRows[x], c);
                        }
                    }
                }
            }
            return rows;
        }

        private void addOpen(int id, Costs openRows, int c) {
            if (grants[id][3] != 0) {
                openRows.add(c);
            }
        }

        /** The costs at which the subject of each grant denotes each principal. */
        private Costs[][] steps() {
            Costs[][] steps = new Costs[grants.length][];
            for (int id = 0; id < grants.length; id++) {
                steps[id] = noCosts(principals);
                for (int y = 0; y < principals; y++) {
                    for (int c = 0; c <= GREATEST_COST; c++) {
                        if (denotesAt(grants[id][1], grants[id][2], y, c)) {
                            steps[id][y].add(c);
                        }
                    }
                }
            }
            return steps;
        }
    }
}
