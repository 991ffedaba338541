/**
 * Resolves local names through certificates, and says who is trusted by whom, each with the least
 * number of certificates that shows it.
 */
public final class NameResolver {
    public static final int BAD = -1;
    public static final int FULL = -2;
    public static final int NONE = -1;

    private static final int MOST_PRINCIPALS = 6;
    private static final int NAMES = 3;
    private static final int PATHS = 13;
    private static final int FIRST_PATH_OF_ONE = 1;
    private static final int FIRST_PATH_OF_TWO = 4;
    private static final int MOST_CERTIFICATES = 10;
    private static final int MOST_GRANTS = 6;

    // One place for each (owner, name, member).
    private static final int MEMBERSHIPS = 108;

    // The first cost that does not count. It also stands for "does not hold": a least cost that is
    // looked for from here downwards leaves out everything too dear.
    private static final int BEYOND = 1000;

    private final int principals;

    private int certificateBits;
    private final int[] certificateOwner = new int[MOST_CERTIFICATES];
    private final int[] certificateName = new int[MOST_CERTIFICATES];
    private final int[] certificatePrincipal = new int[MOST_CERTIFICATES];
    private final int[] certificatePath = new int[MOST_CERTIFICATES];

    private int grantBits;
    private final int[] grantGiver = new int[MOST_GRANTS];
    private final int[] grantPrincipal = new int[MOST_GRANTS];
    private final int[] grantPath = new int[MOST_GRANTS];
    private final boolean[] grantOpen = new boolean[MOST_GRANTS];

    // Kept in step with the certificates, so that questions only read it.
    private final int[] leastCost = new int[MEMBERSHIPS];

    // Scratch: only meaningful within the call that fills it.
    private final int[] costWithoutOne = new int[MEMBERSHIPS];
    private final int[] openRowCost = new int[MOST_PRINCIPALS];

    public NameResolver(int principals) {
        this.principals = principals < 1 ? 1 : principals > MOST_PRINCIPALS ? MOST_PRINCIPALS : principals;
        takeAllBack();
    }

    public int certify(int k, int n, int p, int path) {
        if (!isPrincipal(k) || !isName(n) || !isSubject(p, path)) {
            return BAD;
        }
        int id = leastFree(certificateBits, MOST_CERTIFICATES);
        if (id == FULL) {
            return FULL;
        }
        certificateOwner[id] = k;
        certificateName[id] = n;
        certificatePrincipal[id] = p;
        certificatePath[id] = path;
        certificateBits |= 1 << id;
        resolve(leastCost, certificateBits);
        return id;
    }

    public boolean revoke(int id) {
        if (!isHeld(certificateBits, MOST_CERTIFICATES, id)) {
            return false;
        }
        certificateBits &= ~(1 << id);
        resolve(leastCost, certificateBits);
        return true;
    }

    public int grant(int k, int p, int path, boolean open) {
        if (!isPrincipal(k) || !isSubject(p, path)) {
            return BAD;
        }
        int id = leastFree(grantBits, MOST_GRANTS);
        if (id == FULL) {
            return FULL;
        }
        grantGiver[id] = k;
        grantPrincipal[id] = p;
        grantPath[id] = path;
        grantOpen[id] = open;
        grantBits |= 1 << id;
        return id;
    }

    public boolean withdraw(int id) {
        if (!isHeld(grantBits, MOST_GRANTS, id)) {
            return false;
        }
        grantBits &= ~(1 << id);
        return true;
    }

    public int certificates() {
        return certificateBits;
    }

    public int grants() {
        return grantBits;
    }

    public int members(int k, int n) {
        if (!isPrincipal(k) || !isName(n)) {
            return 0;
        }
        int bits = 0;
        for (int x = 0; x < principals; x++) {
            int at = place(k, n, x);
            if (leastCost[at] < BEYOND) {
                bits |= 1 << x;
            }
        }
        return bits;
    }

    public int cost(int k, int n, int x) {
        if (!isPrincipal(k) || !isName(n) || !isPrincipal(x)) {
            return NONE;
        }
        int at = place(k, n, x);
        return costOrNone(leastCost[at]);
    }

    public int denotes(int p, int path, int x) {
        if (!isSubject(p, path) || !isPrincipal(x)) {
            return NONE;
        }
        int least = denotingCost(leastCost, p, path, x);
        return costOrNone(least);
    }

    public int witness(int k, int n, int x) {
        int due = cost(k, n, x);
        if (due == NONE) {
            return NONE;
        }
        for (int id = 0; id < MOST_CERTIFICATES; id++) {
            if (isHeld(certificateBits, MOST_CERTIFICATES, id)
                    && certificateOwner[id] == k
                    && certificateName[id] == n
                    && denotingCost(leastCost, certificatePrincipal[id], certificatePath[id], x) == due - 1) {
                return id;
            }
        }
        return NONE;
    }

    public boolean matters(int id) {
        if (!isHeld(certificateBits, MOST_CERTIFICATES, id)) {
            return false;
        }
        resolve(costWithoutOne, certificateBits & ~(1 << id));
        for (int at = 0; at < MEMBERSHIPS; at++) {
            if (leastCost[at] < BEYOND && costWithoutOne[at] == BEYOND) {
                return true;
            }
        }
        return false;
    }

    public int trusted(int k) {
        if (!isPrincipal(k)) {
            return 0;
        }
        followOpenGrants(k);
        int bits = 0;
        for (int x = 0; x < principals; x++) {
            if (costOfLastGrant(x) < BEYOND) {
                bits |= 1 << x;
            }
        }
        return bits;
    }

    public int trustCost(int k, int x) {
        if (!isPrincipal(k) || !isPrincipal(x)) {
            return NONE;
        }
        followOpenGrants(k);
        int least = costOfLastGrant(x);
        return costOrNone(least);
    }

    public void clear() {
        takeAllBack();
    }

    private void takeAllBack() {
        certificateBits = 0;
        grantBits = 0;
        for (int at = 0; at < MEMBERSHIPS; at++) {
            leastCost[at] = BEYOND;
        }
    }

    private boolean isPrincipal(int p) {
        return p >= 0 && p < principals;
    }

    private boolean isSubject(int p, int path) {
        return isPrincipal(p) && path >= 0 && path < PATHS;
    }

    private static boolean isName(int n) {
        return n >= 0 && n < NAMES;
    }

    private static boolean isHeld(int bits, int most, int id) {
        return id >= 0 && id < most && (bits >> id & 1) == 1;
    }

    private static int leastFree(int bits, int most) {
        for (int id = 0; id < most; id++) {
            if (!isHeld(bits, most, id)) {
                return id;
            }
        }
        return FULL;
    }

    private static int place(int owner, int name, int member) {
        return (owner * NAMES + name) * MOST_PRINCIPALS + member;
    }

    private static int costOrNone(int least) {
        return least < BEYOND ? least : NONE;
    }

    /** Fills the table with the least costs that the certificates in the bits give. */
    private void resolve(int[] table, int bits) {
        for (int at = 0; at < MEMBERSHIPS; at++) {
            table[at] = BEYOND;
        }
        // Every use of a certificate costs, so a cheapest proof of a membership does not rest on
        // that same membership: it is at most MEMBERSHIPS deep, and each round settles one depth.
        boolean lowered = true;
        for (int round = 0; round < MEMBERSHIPS && lowered; round++) {
            lowered = false;
            for (int id = 0; id < MOST_CERTIFICATES; id++) {
                if (isHeld(bits, MOST_CERTIFICATES, id) && applyCertificate(table, id)) {
                    lowered = true;
                }
            }
        }
    }

    /** Says whether the certificate made some membership cheaper. */
    private boolean applyCertificate(int[] table, int id) {
        boolean lowered = false;
        for (int x = 0; x < principals; x++) {
            int least = 1 + denotingCost(table, certificatePrincipal[id], certificatePath[id], x);
            int at = place(certificateOwner[id], certificateName[id], x);
            if (least < table[at]) {
                table[at] = least;
                lowered = true;
            }
        }
        return lowered;
    }

    private int denotingCost(int[] table, int p, int path, int x) {
        if (path < FIRST_PATH_OF_ONE) {
            return p == x ? 0 : BEYOND;
        }
        if (path < FIRST_PATH_OF_TWO) {
            int at = place(p, path - FIRST_PATH_OF_ONE, x);
            return table[at];
        }
        int first = (path - FIRST_PATH_OF_TWO) / NAMES;
        int second = (path - FIRST_PATH_OF_TWO) % NAMES;
        int least = BEYOND;
        for (int q = 0; q < principals; q++) {
            int toMiddle = place(p, first, q);
            int fromMiddle = place(q, second, x);
            int sum = table[toMiddle] + table[fromMiddle];
            if (sum < least) {
                least = sum;
            }
        }
        return least;
    }

    /** Finds, for every principal, the least cost of a row of open grants, perhaps of none, from k. */
    private void followOpenGrants(int k) {
        for (int y = 0; y < MOST_PRINCIPALS; y++) {
            openRowCost[y] = BEYOND;
        }
        openRowCost[k] = 0;
        // A cheapest row comes to no principal twice, so it has fewer grants than there are principals.
        for (int round = 1; round < principals; round++) {
            for (int id = 0; id < MOST_GRANTS; id++) {
                boolean usable = isHeld(grantBits, MOST_GRANTS, id) && grantOpen[id];
                for (int y = 0; y < principals && usable; y++) {
                    int through = costThroughGrant(id, y);
                    openRowCost[y] = through < openRowCost[y] ? through : openRowCost[y];
                }
            }
        }
    }

    /** The last grant of a row need not be open, and there must be one even from k to k itself. */
    private int costOfLastGrant(int x) {
        int least = BEYOND;
        for (int id = 0; id < MOST_GRANTS; id++) {
            if (isHeld(grantBits, MOST_GRANTS, id)) {
                int through = costThroughGrant(id, x);
                least = through < least ? through : least;
            }
        }
        return least;
    }

    private int costThroughGrant(int id, int x) {
        int giver = grantGiver[id];
        return openRowCost[giver] + 1 + denotingCost(leastCost, grantPrincipal[id], grantPath[id], x);
    }
}
