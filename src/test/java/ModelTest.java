/**
 * Long mixed runs of calls, each answer held against a slow model that follows the words of the
 * document's Terms: it goes up through the costs one by one and asks what holds at just that cost.
 */
public final class ModelTest {
    private static final int OBJECTS = 600;
    private static final int CALLS = 512;
    private static final int GREATEST_COST = 999;

    private static long state = 20261115L;
    private static int wrong = 0;
    private static int greatestSeen = 0;

    public static void main(String[] args) {
        for (int object = 0; object < OBJECTS; object++) {
            oneObject(object);
        }
        if (greatestSeen < 990) {
            wrong++;
            System.out.println("the runs come no further than cost " + greatestSeen + ": they are too tame");
        }
        System.out.println(wrong == 0 ? "all answers are as the model's" : wrong + " answers are not as the model's");
        if (wrong != 0) {
            System.exit(1);
        }
    }

    private static void oneObject(int object) {
        int asked = object % 4 == 0 ? below(10) - 1 : 6;
        NameResolver real = new NameResolver(asked);
        Model model = new Model(asked);
        int calls = 0;
        if (object % 3 == 1) {
            int[] dear = Dear.CERTIFICATES[below(Dear.CERTIFICATES.length)];
            for (int i = 0; i < dear.length; i += 4) {
                certify(object, real, model, dear[i], dear[i + 1], dear[i + 2], dear[i + 3]);
                calls++;
            }
            for (int i = 0; i < Dear.GRANTS.length; i += 3) {
                grant(object, real, model, Dear.GRANTS[i], Dear.GRANTS[i + 1], Dear.GRANTS[i + 2], true);
                calls++;
            }
        }
        boolean oftenChanged = object % 2 == 0;
        for (; calls < CALLS; calls++) {
            if (below(100) < (oftenChanged ? 30 : 8)) {
                change(object, real, model);
            } else {
                ask(object, real, model);
            }
        }
    }

    private static void change(int object, NameResolver real, Model model) {
        int kind = below(100);
        if (kind < 45) {
            certify(object, real, model, principal(), name(), principal(), path());
        } else if (kind < 60) {
            int id = number(10);
            due(object, "revoke(" + id + ")", bit(real.revoke(id)), bit(model.revoke(id)));
        } else if (kind < 88) {
            grant(object, real, model, principal(), principal(), path(), below(3) != 0);
        } else if (kind < 99) {
            int id = number(6);
            due(object, "withdraw(" + id + ")", bit(real.withdraw(id)), bit(model.withdraw(id)));
        } else {
            real.clear();
            model.clear();
        }
    }

    private static void certify(int object, NameResolver real, Model model, int k, int n, int p, int path) {
        due(object, "certify(" + k + ", " + n + ", " + p + ", " + path + ")",
                real.certify(k, n, p, path), model.certify(k, n, p, path));
    }

    private static void grant(int object, NameResolver real, Model model, int k, int p, int path, boolean open) {
        due(object, "grant(" + k + ", " + p + ", " + path + ", " + open + ")",
                real.grant(k, p, path, open), model.grant(k, p, path, open));
    }

    private static void ask(int object, NameResolver real, Model model) {
        int k = principal();
        int n = name();
        int x = principal();
        int path = path();
        switch (below(10)) {
            case 0 -> due(object, "certificates()", real.certificates(), model.bits(model.certificates));
            case 1 -> due(object, "grants()", real.grants(), model.bits(model.grants));
            case 2 -> due(object, "members(" + k + ", " + n + ")", real.members(k, n), model.members(k, n));
            case 3, 4 -> due(object, "cost(" + k + ", " + n + ", " + x + ")", real.cost(k, n, x), model.cost(k, n, x));
            case 5 -> due(object, "denotes(" + k + ", " + path + ", " + x + ")",
                    real.denotes(k, path, x), model.denotes(k, path, x));
            case 6 -> due(object, "witness(" + k + ", " + n + ", " + x + ")",
                    real.witness(k, n, x), model.witness(k, n, x));
            case 7 -> {
                int id = number(10);
                due(object, "matters(" + id + ")", bit(real.matters(id)), bit(model.matters(id)));
            }
            case 8 -> due(object, "trusted(" + k + ")", real.trusted(k), model.trusted(k));
            default -> due(object, "trustCost(" + k + ", " + x + ")", real.trustCost(k, x), model.trustCost(k, x));
        }
    }

    private static void due(int object, String call, int got, int want) {
        if (call.contains("ost(") || call.startsWith("denotes")) {
            greatestSeen = Math.max(greatestSeen, want);
        }
        if (got != want) {
            wrong++;
            if (wrong <= 20) {
                System.out.println("object " + object + ": " + call + " answered " + got + ", due is " + want);
            }
        }
    }

    private static int bit(boolean b) {
        return b ? 1 : 0;
    }

    private static int below(int bound) {
        state = state * 6364136223846793005L + 1442695040888963407L;
        return (int) ((state >>> 33) % bound);
    }

    private static int mostly(int right) {
        int kind = below(60);
        return kind == 0 ? -1
                : kind == 1 ? right
                : kind == 2 ? Integer.MIN_VALUE + below(3)
                : kind == 3 ? Integer.MAX_VALUE - below(3)
                : below(right);
    }

    private static int principal() {
        return mostly(6);
    }

    private static int name() {
        return mostly(3);
    }

    private static int number(int right) {
        return mostly(right);
    }

    private static int path() {
        return below(3) == 0 ? below(4) : mostly(13);
    }

    private static final class Model {
        final int principals;
        final int[][] certificates = new int[10][];
        final int[][] grants = new int[6][];
        private int[][][] least;

        Model(int principals) {
            this.principals = Math.max(1, Math.min(6, principals));
        }

        int certify(int k, int n, int p, int path) {
            if (no(k) || no(p) || n < 0 || n > 2 || path < 0 || path > 12) {
                return -1;
            }
            return put(certificates, new int[] {k, n, p, path});
        }

        int grant(int k, int p, int path, boolean open) {
            if (no(k) || no(p) || path < 0 || path > 12) {
                return -1;
            }
            return put(grants, new int[] {k, p, path, open ? 1 : 0});
        }

        boolean revoke(int id) {
            return drop(certificates, id);
        }

        boolean withdraw(int id) {
            return drop(grants, id);
        }

        void clear() {
            java.util.Arrays.fill(certificates, null);
            java.util.Arrays.fill(grants, null);
            least = null;
        }

        int bits(int[][] held) {
            int bits = 0;
            for (int id = 0; id < held.length; id++) {
                bits |= held[id] == null ? 0 : 1 << id;
            }
            return bits;
        }

        int members(int k, int n) {
            int bits = 0;
            for (int x = 0; x < principals; x++) {
                bits |= cost(k, n, x) == -1 ? 0 : 1 << x;
            }
            return bits;
        }

        int cost(int k, int n, int x) {
            return no(k) || no(x) || n < 0 || n > 2 ? -1 : costs()[k][n][x];
        }

        int denotes(int p, int path, int x) {
            return no(p) || no(x) || path < 0 || path > 12 ? -1 : denoting(costs(), p, path, x);
        }

        int witness(int k, int n, int x) {
            int due = cost(k, n, x);
            for (int id = 0; id < 10 && due != -1; id++) {
                int[] c = certificates[id];
                if (c != null && c[0] == k && c[1] == n && denotes(c[2], c[3], x) == due - 1) {
                    return id;
                }
            }
            return -1;
        }

        boolean matters(int id) {
            if (id < 0 || id > 9 || certificates[id] == null) {
                return false;
            }
            int[][][] with = costs();
            int[] taken = certificates[id];
            certificates[id] = null;
            int[][][] without = climb();
            certificates[id] = taken;
            for (int k = 0; k < principals; k++) {
                for (int n = 0; n < 3; n++) {
                    for (int x = 0; x < principals; x++) {
                        if (with[k][n][x] != -1 && without[k][n][x] == -1) {
                            return true;
                        }
                    }
                }
            }
            return false;
        }

        int trusted(int k) {
            int bits = 0;
            for (int x = 0; x < principals; x++) {
                bits |= trustCost(k, x) == -1 ? 0 : 1 << x;
            }
            return bits;
        }

        /** Looks for rows that end in x, from the last grant backwards, cost by cost. */
        int trustCost(int k, int x) {
            if (no(k) || no(x)) {
                return -1;
            }
            int[] toX = new int[principals];
            java.util.Arrays.fill(toX, -1);
            int[][] steps = stepsOfGrants();
            for (int c = 1; c <= GREATEST_COST && toX[k] == -1; c++) {
                for (int id = 0; id < 6; id++) {
                    int[] g = grants[id];
                    if (g != null && toX[g[0]] == -1 && trustsAt(g[3] == 1, steps[id], x, c, toX)) {
                        toX[g[0]] = c;
                    }
                }
            }
            return toX[k];
        }

        private int[][] stepsOfGrants() {
            int[][] steps = new int[6][principals];
            for (int id = 0; id < 6; id++) {
                for (int y = 0; y < principals && grants[id] != null; y++) {
                    steps[id][y] = denotes(grants[id][1], grants[id][2], y);
                }
            }
            return steps;
        }

        private boolean trustsAt(boolean open, int[] steps, int x, int c, int[] toX) {
            if (steps[x] == c - 1) {
                return true;
            }
            for (int y = 0; y < principals && open; y++) {
                if (steps[y] != -1 && toX[y] != -1 && 1 + steps[y] + toX[y] == c) {
                    return true;
                }
            }
            return false;
        }

        private int[][][] costs() {
            if (least == null) {
                least = climb();
            }
            return least;
        }

        private int[][][] climb() {
            int[][][] found = new int[principals][3][principals];
            for (int[][] names : found) {
                for (int[] members : names) {
                    java.util.Arrays.fill(members, -1);
                }
            }
            int greatest = 0;
            // Two found costs and one more make the greatest new one: past that nothing new can come.
            for (int c = 1; c <= GREATEST_COST && c <= 2 * greatest + 1; c++) {
                for (int[] held : certificates) {
                    for (int x = 0; x < principals && held != null; x++) {
                        if (found[held[0]][held[1]][x] == -1 && denoting(found, held[2], held[3], x) == c - 1) {
                            found[held[0]][held[1]][x] = c;
                            greatest = c;
                        }
                    }
                }
            }
            return found;
        }

        private int denoting(int[][][] found, int p, int path, int x) {
            if (path == 0) {
                return p == x ? 0 : -1;
            }
            if (path <= 3) {
                return found[p][path - 1][x];
            }
            for (int a = 0; a < 3; a++) {
                for (int b = 0; b < 3; b++) {
                    if (path == 4 + 3 * a + b) {
                        return denotingTwo(found, p, a, b, x);
                    }
                }
            }
            return -1;
        }

        private int denotingTwo(int[][][] found, int p, int a, int b, int x) {
            int best = -1;
            for (int q = 0; q < principals; q++) {
                int c = found[p][a][q];
                int d = found[q][b][x];
                if (c != -1 && d != -1 && c + d <= GREATEST_COST && (best == -1 || c + d < best)) {
                    best = c + d;
                }
            }
            return best;
        }

        private boolean no(int p) {
            return p < 0 || p >= principals;
        }

        private int put(int[][] held, int[] one) {
            for (int id = 0; id < held.length; id++) {
                if (held[id] == null) {
                    held[id] = one;
                    least = null;
                    return id;
                }
            }
            return -2;
        }

        private boolean drop(int[][] held, int id) {
            if (id < 0 || id >= held.length || held[id] == null) {
                return false;
            }
            held[id] = null;
            least = null;
            return true;
        }
    }
}
