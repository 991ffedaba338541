/** One method for each promise of the document: ordinary inputs, the edges it names, wrong inputs. */
public final class PromisesTest {
    private static final int[] NO_PRINCIPAL_OF_SIX = {-1, 6, 7, Integer.MIN_VALUE, Integer.MAX_VALUE};
    private static final int[] NO_NAME = {-1, 3, 4, Integer.MIN_VALUE, Integer.MAX_VALUE};
    private static final int[] NO_PATH = {-1, 13, 14, Integer.MIN_VALUE, Integer.MAX_VALUE};

    private static final int EMPTY = 0;

    private static int wrong = 0;
    private static int promise = 0;

    public static void main(String[] args) {
        aNewObject();
        certify();
        revoke();
        grant();
        withdraw();
        certificates();
        grants();
        members();
        cost();
        denotes();
        witness();
        matters();
        trusted();
        trustCost();
        clear();
        orderAndLimits();
        System.out.println(wrong == 0 ? "all promises hold" : wrong + " answers break a promise");
        if (wrong != 0) {
            System.exit(1);
        }
    }

    private static void due(String what, long got, long want) {
        if (got != want) {
            wrong++;
            System.out.println("promise " + promise + ": " + what + " answered " + got + ", due is " + want);
        }
    }

    private static void due(String what, boolean got, boolean want) {
        due(what, got ? 1 : 0, want ? 1 : 0);
    }

    private static int one(int a) {
        return 1 + a;
    }

    private static int two(int a, int b) {
        return 4 + 3 * a + b;
    }

    private static NameResolver with(int principals, int[]... certificates) {
        NameResolver r = new NameResolver(principals);
        for (int[] c : certificates) {
            due("certify in the set-up is taken", r.certify(c[0], c[1], c[2], c[3]) >= 0, true);
        }
        return r;
    }

    private static int[] cert(int k, int n, int p, int path) {
        return new int[] {k, n, p, path};
    }

    private static void aNewObject() {
        promise = 1;
        int[][] askedAndDue = {
            {Integer.MIN_VALUE, 1}, {-1, 1}, {0, 1}, {1, 1}, {2, 2}, {3, 3}, {4, 4}, {5, 5}, {6, 6}, {7, 6},
            {Integer.MAX_VALUE, 6},
        };
        for (int[] pair : askedAndDue) {
            NameResolver r = new NameResolver(pair[0]);
            due("certificates() of a new object", r.certificates(), 0);
            due("grants() of a new object", r.grants(), 0);
            for (int k = 0; k < 6; k++) {
                due("members(" + k + ", 0) of a new object", r.members(k, 0), 0);
                due("trusted(" + k + ") of a new object", r.trusted(k), 0);
                due("cost(" + k + ", 2, 0) of a new object", r.cost(k, 2, 0), NameResolver.NONE);
                due("trustCost(" + k + ", 0) of a new object", r.trustCost(k, 0), NameResolver.NONE);
            }
            due("the last principal of " + pair[0], r.denotes(pair[1] - 1, EMPTY, pair[1] - 1), 0);
            due("one past the last of " + pair[0], r.denotes(pair[1], EMPTY, pair[1]), NameResolver.NONE);
            due("certify by the last of " + pair[0], r.certify(pair[1] - 1, 0, 0, EMPTY), 0);
            due("certify by one past the last of " + pair[0], r.certify(pair[1], 0, 0, EMPTY), NameResolver.BAD);
        }
    }

    private static void certify() {
        promise = 2;
        NameResolver r = new NameResolver(6);
        for (int wrongOne : NO_PRINCIPAL_OF_SIX) {
            due("certify of k " + wrongOne, r.certify(wrongOne, 0, 0, 0), NameResolver.BAD);
            due("certify of p " + wrongOne, r.certify(0, 0, wrongOne, 0), NameResolver.BAD);
        }
        for (int wrongOne : NO_NAME) {
            due("certify of n " + wrongOne, r.certify(0, wrongOne, 0, 0), NameResolver.BAD);
        }
        for (int wrongOne : NO_PATH) {
            due("certify of path " + wrongOne, r.certify(0, 0, 0, wrongOne), NameResolver.BAD);
        }
        due("certificates() after BAD alone", r.certificates(), 0);
        for (int id = 0; id < 10; id++) {
            due("certify number " + id, r.certify(id % 6, id % 3, 5, id + 3), id);
        }
        due("the eleventh certify", r.certify(0, 0, 0, 0), NameResolver.FULL);
        due("revoke(7)", r.revoke(7), true);
        due("revoke(2)", r.revoke(2), true);
        due("certify takes the least free number", r.certify(0, 0, 5, EMPTY), 2);
        due("what it says", r.cost(0, 0, 5), 1);
        due("certify takes the next free number", r.certify(0, 0, 4, 12), 7);
        due("certify when full again", r.certify(0, 0, 0, 0), NameResolver.FULL);
        NameResolver three = new NameResolver(3);
        due("certify of k 3 among three", three.certify(3, 0, 0, 0), NameResolver.BAD);
        due("certify of p 3 among three", three.certify(0, 0, 3, 0), NameResolver.BAD);
        due("certify of 2, 2, 2, 12 among three", three.certify(2, 2, 2, 12), 0);
    }

    private static void revoke() {
        promise = 3;
        NameResolver r = with(6, cert(0, 0, 1, EMPTY), cert(0, 0, 2, EMPTY), cert(0, 1, 0, one(0)));
        for (int id : new int[] {-1, 3, 9, 10, 31, 32, 33, -32, Integer.MIN_VALUE, Integer.MAX_VALUE}) {
            due("revoke(" + id + ")", r.revoke(id), false);
        }
        due("certificates() after false alone", r.certificates(), 0b111);
        due("members(0, 1) after false alone", r.members(0, 1), 0b110);
        due("revoke(1)", r.revoke(1), true);
        due("revoke(1) again", r.revoke(1), false);
        due("certificates()", r.certificates(), 0b101);
        due("members(0, 0)", r.members(0, 0), 0b010);
        due("members(0, 1) that rested on it", r.members(0, 1), 0b010);
        due("cost(0, 1, 2)", r.cost(0, 1, 2), NameResolver.NONE);
        due("cost(0, 1, 1)", r.cost(0, 1, 1), 2);

        NameResolver loop = with(6, cert(0, 0, 1, one(0)), cert(1, 0, 0, one(0)), cert(1, 0, 2, EMPTY));
        due("members(0, 0) in a ring that holds someone", loop.members(0, 0), 0b100);
        due("revoke(2)", loop.revoke(2), true);
        due("members(0, 0): a ring does not hold itself up", loop.members(0, 0), 0);
        due("members(1, 0): a ring does not hold itself up", loop.members(1, 0), 0);
    }

    private static void grant() {
        promise = 4;
        NameResolver r = new NameResolver(6);
        for (int wrongOne : NO_PRINCIPAL_OF_SIX) {
            due("grant of k " + wrongOne, r.grant(wrongOne, 0, 0, true), NameResolver.BAD);
            due("grant of p " + wrongOne, r.grant(0, wrongOne, 0, false), NameResolver.BAD);
        }
        for (int wrongOne : NO_PATH) {
            due("grant of path " + wrongOne, r.grant(0, 0, wrongOne, true), NameResolver.BAD);
        }
        due("grants() after BAD alone", r.grants(), 0);
        for (int id = 0; id < 6; id++) {
            due("grant number " + id, r.grant(id, 5 - id, 12 - id, id % 2 == 0), id);
        }
        due("the seventh grant", r.grant(0, 0, 0, true), NameResolver.FULL);
        due("withdraw(4)", r.withdraw(4), true);
        due("withdraw(1)", r.withdraw(1), true);
        due("grant takes the least free number", r.grant(3, 2, EMPTY, false), 1);
        due("what it says", r.trusted(3), 0b100);
        due("grant takes the next free number", r.grant(0, 0, 0, true), 4);
        NameResolver three = new NameResolver(3);
        due("grant of k 3 among three", three.grant(3, 0, 0, true), NameResolver.BAD);
        due("grant of p 3 among three", three.grant(0, 3, 0, true), NameResolver.BAD);
    }

    private static void withdraw() {
        promise = 5;
        NameResolver r = new NameResolver(6);
        r.grant(0, 1, EMPTY, true);
        r.grant(1, 2, EMPTY, false);
        for (int id : new int[] {-1, 2, 5, 6, 31, 32, 33, -32, Integer.MIN_VALUE, Integer.MAX_VALUE}) {
            due("withdraw(" + id + ")", r.withdraw(id), false);
        }
        due("grants() after false alone", r.grants(), 0b11);
        due("trusted(0) after false alone", r.trusted(0), 0b110);
        due("withdraw(0)", r.withdraw(0), true);
        due("withdraw(0) again", r.withdraw(0), false);
        due("grants()", r.grants(), 0b10);
        due("trusted(0)", r.trusted(0), 0);
        due("trusted(1)", r.trusted(1), 0b100);
    }

    private static void certificates() {
        promise = 6;
        NameResolver r = new NameResolver(6);
        int bits = 0;
        for (int id = 0; id < 10; id++) {
            r.certify(0, 0, 0, one(0));
            bits |= 1 << id;
            due("certificates() with " + (id + 1), r.certificates(), bits);
        }
        r.revoke(0);
        r.revoke(9);
        r.grant(0, 0, 0, true);
        due("certificates() without 0 and 9", r.certificates(), 0b0111111110);
    }

    private static void grants() {
        promise = 7;
        NameResolver r = new NameResolver(6);
        int bits = 0;
        for (int id = 0; id < 6; id++) {
            r.grant(0, 0, one(0), true);
            bits |= 1 << id;
            due("grants() with " + (id + 1), r.grants(), bits);
        }
        r.withdraw(0);
        r.withdraw(5);
        r.certify(0, 0, 0, 0);
        due("grants() without 0 and 5", r.grants(), 0b011110);
    }

    private static void members() {
        promise = 8;
        NameResolver r = with(6,
                cert(0, 0, 1, EMPTY), cert(0, 0, 2, EMPTY), cert(1, 2, 5, EMPTY), cert(2, 2, 0, EMPTY),
                cert(3, 1, 0, one(0)), cert(4, 2, 0, two(0, 2)), cert(0, 2, 0, EMPTY));
        due("members(0, 0)", r.members(0, 0), 0b000110);
        due("members(3, 1), of a path of one name", r.members(3, 1), 0b000110);
        due("members(4, 2), of a path of two names", r.members(4, 2), 0b100001);
        due("members(0, 2), of itself", r.members(0, 2), 0b000001);
        due("members(0, 1), of which nothing is said", r.members(0, 1), 0);
        due("members(5, 0), of which nothing is said", r.members(5, 0), 0);
        for (int wrongOne : NO_PRINCIPAL_OF_SIX) {
            due("members(" + wrongOne + ", 0)", r.members(wrongOne, 0), 0);
        }
        for (int wrongOne : NO_NAME) {
            due("members(0, " + wrongOne + ")", r.members(0, wrongOne), 0);
        }
        NameResolver none = with(2, cert(0, 0, 0, one(0)), cert(1, 1, 1, two(1, 1)));
        due("members of a name that says only itself", none.members(0, 0), 0);
        due("members of a name that says only itself twice", none.members(1, 1), 0);
    }

    private static void cost() {
        promise = 9;
        NameResolver r = with(6,
                cert(0, 0, 1, EMPTY), cert(1, 1, 2, EMPTY), cert(0, 1, 0, two(0, 1)), cert(3, 0, 0, one(1)),
                cert(3, 1, 3, one(0)));
        due("cost(0, 0, 1)", r.cost(0, 0, 1), 1);
        due("cost(0, 1, 2), of two names", r.cost(0, 1, 2), 3);
        due("cost(3, 0, 2), of one name", r.cost(3, 0, 2), 4);
        due("cost(3, 1, 2), of one name", r.cost(3, 1, 2), 5);
        due("cost(3, 1, 1)", r.cost(3, 1, 1), NameResolver.NONE);
        r.certify(3, 1, 1, one(1));
        due("cost(3, 1, 2) by a shorter way", r.cost(3, 1, 2), 2);
        for (int wrongOne : NO_PRINCIPAL_OF_SIX) {
            due("cost of k " + wrongOne, r.cost(wrongOne, 0, 1), NameResolver.NONE);
            due("cost of x " + wrongOne, r.cost(0, 0, wrongOne), NameResolver.NONE);
        }
        for (int wrongOne : NO_NAME) {
            due("cost of n " + wrongOne, r.cost(0, wrongOne, 1), NameResolver.NONE);
        }
        NameResolver uses = with(1, cert(0, 0, 0, EMPTY), cert(0, 1, 0, two(0, 0)), cert(0, 2, 0, two(1, 1)));
        due("cost(0, 1, 0): each use counts", uses.cost(0, 1, 0), 3);
        due("cost(0, 2, 0): each use counts", uses.cost(0, 2, 0), 7);

        // The middle that is nearer to the start is not the better one here.
        NameResolver middles = with(6,
                cert(0, 0, 1, EMPTY), cert(0, 0, 3, one(2)), cert(3, 2, 2, EMPTY), cert(2, 1, 5, EMPTY),
                cert(1, 1, 1, one(2)), cert(1, 2, 4, one(0)), cert(4, 0, 4, one(1)), cert(4, 1, 5, EMPTY),
                cert(0, 2, 0, two(0, 1)));
        due("cost(0, 2, 5): the least sum, not the least first part", middles.cost(0, 2, 5), 4);

        // A cost that is found early and bettered late is bettered in what rests on it too.
        NameResolver late = with(6,
                cert(5, 0, 4, one(0)), cert(4, 0, 3, one(0)), cert(3, 0, 2, one(0)), cert(2, 0, 1, one(0)),
                cert(1, 0, 0, EMPTY));
        due("cost(5, 0, 0) against the order of the numbers", late.cost(5, 0, 0), 5);
        late.certify(3, 0, 0, EMPTY);
        due("cost(5, 0, 0) by a later certificate", late.cost(5, 0, 0), 3);
    }

    private static void denotes() {
        promise = 10;
        NameResolver r = with(4,
                cert(0, 0, 1, EMPTY), cert(1, 1, 2, EMPTY), cert(1, 1, 3, EMPTY), cert(0, 2, 1, one(1)),
                cert(2, 0, 0, EMPTY));
        due("denotes(3, empty, 3)", r.denotes(3, EMPTY, 3), 0);
        due("denotes(3, empty, 0)", r.denotes(3, EMPTY, 0), NameResolver.NONE);
        due("denotes(0, 0, 1)", r.denotes(0, one(0), 1), 1);
        due("denotes(0, 0, 0)", r.denotes(0, one(0), 0), NameResolver.NONE);
        due("denotes(0, 2, 3)", r.denotes(0, one(2), 3), 2);
        due("denotes(0, 0 1, 2)", r.denotes(0, two(0, 1), 2), 2);
        due("denotes(0, 0 1, 3)", r.denotes(0, two(0, 1), 3), 2);
        due("denotes(0, 2 0, 0)", r.denotes(0, two(2, 0), 0), 3);
        due("denotes(0, 1 0, 0)", r.denotes(0, two(1, 0), 0), NameResolver.NONE);
        due("denotes(0, 0 2, 2)", r.denotes(0, two(0, 2), 2), NameResolver.NONE);
        for (int wrongOne : new int[] {-1, 4, 5, Integer.MIN_VALUE, Integer.MAX_VALUE}) {
            due("denotes of p " + wrongOne, r.denotes(wrongOne, EMPTY, 0), NameResolver.NONE);
            due("denotes of x " + wrongOne, r.denotes(0, one(0), wrongOne), NameResolver.NONE);
            due("denotes of p and x " + wrongOne, r.denotes(wrongOne, EMPTY, wrongOne), NameResolver.NONE);
        }
        for (int wrongOne : NO_PATH) {
            due("denotes of path " + wrongOne, r.denotes(0, wrongOne, 0), NameResolver.NONE);
        }

        // Every path of two names by itself: only the two right names lead on.
        for (int a = 0; a < 3; a++) {
            for (int b = 0; b < 3; b++) {
                NameResolver pair = with(3, cert(0, a, 1, EMPTY), cert(1, b, 2, EMPTY));
                for (int path = 1; path < 13; path++) {
                    int want = path == 4 + 3 * a + b ? 2 : NameResolver.NONE;
                    due("denotes(0, " + path + ", 2) with " + a + " and " + b, pair.denotes(0, path, 2), want);
                }
            }
        }
    }

    private static void witness() {
        promise = 11;
        NameResolver r = with(6,
                cert(0, 1, 1, EMPTY), cert(0, 0, 0, one(1)), cert(0, 0, 1, EMPTY), cert(0, 0, 1, EMPTY),
                cert(0, 0, 2, one(2)), cert(2, 2, 4, EMPTY), cert(3, 0, 1, EMPTY));
        due("witness(0, 0, 1): not the dear one with the lesser number", r.witness(0, 0, 1), 2);
        due("witness(0, 0, 4)", r.witness(0, 0, 4), 4);
        due("witness(0, 1, 1)", r.witness(0, 1, 1), 0);
        due("witness(3, 0, 1)", r.witness(3, 0, 1), 6);
        due("witness(0, 0, 5)", r.witness(0, 0, 5), NameResolver.NONE);
        due("revoke(2)", r.revoke(2), true);
        due("witness(0, 0, 1) after it", r.witness(0, 0, 1), 3);
        due("revoke(3)", r.revoke(3), true);
        due("witness(0, 0, 1) by the dear one", r.witness(0, 0, 1), 1);
        due("certify takes 2 anew", r.certify(0, 0, 0, one(1)), 2);
        due("witness(0, 0, 1), the least of two alike", r.witness(0, 0, 1), 1);
        for (int wrongOne : NO_PRINCIPAL_OF_SIX) {
            due("witness of k " + wrongOne, r.witness(wrongOne, 0, 1), NameResolver.NONE);
            due("witness of x " + wrongOne, r.witness(0, 0, wrongOne), NameResolver.NONE);
        }
        for (int wrongOne : NO_NAME) {
            due("witness of n " + wrongOne, r.witness(0, wrongOne, 1), NameResolver.NONE);
        }
    }

    private static void matters() {
        promise = 12;
        NameResolver r = with(6,
                cert(0, 0, 1, EMPTY), cert(0, 0, 2, one(0)), cert(2, 0, 1, EMPTY), cert(2, 0, 3, EMPTY),
                cert(4, 0, 4, one(0)), cert(5, 1, 0, two(0, 1)));
        due("matters(0): its member stays, at a greater cost", r.matters(0), false);
        due("matters(1)", r.matters(1), true);
        due("matters(2)", r.matters(2), true);
        due("matters(3)", r.matters(3), true);
        due("matters(4), that says only itself", r.matters(4), false);
        due("matters(5), that denotes no one", r.matters(5), false);
        for (int id : new int[] {-1, 6, 9, 10, 32, Integer.MIN_VALUE, Integer.MAX_VALUE}) {
            due("matters(" + id + ")", r.matters(id), false);
        }
        due("certificates() after the questions", r.certificates(), 0b111111);
        due("cost(0, 0, 1) after the questions", r.cost(0, 0, 1), 1);
        due("members(0, 0) after the questions", r.members(0, 0), 0b1010);
        r.revoke(1);
        due("matters(1) when it is gone", r.matters(1), false);
        due("matters(0) when nothing else says it", r.matters(0), true);

        NameResolver far = with(3, cert(0, 0, 1, EMPTY), cert(0, 0, 1, EMPTY), cert(1, 1, 2, EMPTY),
                cert(2, 2, 0, two(0, 1)));
        due("matters(0), one of two alike", far.matters(0), false);
        due("matters(2), by a name of someone else", far.matters(2), true);
    }

    private static void trusted() {
        promise = 13;
        NameResolver r = with(6, cert(0, 0, 1, EMPTY), cert(0, 0, 2, EMPTY));
        r.grant(5, 0, one(0), true);
        r.grant(1, 3, EMPTY, false);
        r.grant(3, 4, EMPTY, true);
        r.grant(2, 5, EMPTY, false);
        due("trusted(5): through an open grant, and one more", r.trusted(5), 0b101110);
        due("trusted(1): no further than a grant that is not open", r.trusted(1), 0b001000);
        due("trusted(3)", r.trusted(3), 0b010000);
        due("trusted(2)", r.trusted(2), 0b100000);
        due("trusted(0): certificates alone give no trust", r.trusted(0), 0);
        due("trusted(4)", r.trusted(4), 0);
        r.revoke(0);
        due("trusted(5) when a member is gone", r.trusted(5), 0b100100);
        for (int wrongOne : NO_PRINCIPAL_OF_SIX) {
            due("trusted(" + wrongOne + ")", r.trusted(wrongOne), 0);
        }

        // Grants in the order that hides the far end longest.
        NameResolver ring = new NameResolver(6);
        for (int k = 5; k >= 0; k--) {
            ring.grant(k, (k + 1) % 6, EMPTY, true);
        }
        for (int k = 0; k < 6; k++) {
            due("trusted(" + k + ") in a ring of six", ring.trusted(k), 0b111111);
            due("trustCost(" + k + ", " + k + ") in a ring of six", ring.trustCost(k, k), 6);
        }
    }

    private static void trustCost() {
        promise = 14;
        NameResolver r = with(6, cert(0, 0, 1, EMPTY), cert(0, 1, 0, one(0)), cert(1, 0, 2, EMPTY));
        r.grant(0, 0, one(1), true);
        r.grant(1, 0, two(0, 0), false);
        r.grant(2, 3, EMPTY, true);
        due("trustCost(0, 1): one grant and two certificates", r.trustCost(0, 1), 3);
        due("trustCost(0, 2): two grants and four certificates", r.trustCost(0, 2), 6);
        due("trustCost(0, 3): past a grant that is not open", r.trustCost(0, 3), NameResolver.NONE);
        due("trustCost(0, 0): no row of no grants", r.trustCost(0, 0), NameResolver.NONE);
        due("trustCost(1, 2)", r.trustCost(1, 2), 3);
        due("trustCost(2, 3): one grant and no certificate", r.trustCost(2, 3), 1);
        due("trustCost(3, 2)", r.trustCost(3, 2), NameResolver.NONE);
        due("grant of 1 to itself", r.grant(1, 1, EMPTY, false), 3);
        due("trustCost(1, 1)", r.trustCost(1, 1), 1);
        due("a dearer way that is open", r.grant(1, 1, two(0, 0), true), 4);
        due("trustCost(1, 3) by no one yet", r.trustCost(1, 3), NameResolver.NONE);
        due("an open way at equal cost", r.grant(1, 0, two(0, 0), true), 5);
        due("trustCost(1, 3)", r.trustCost(1, 3), 4);
        due("trustCost(0, 3)", r.trustCost(0, 3), 7);
        for (int wrongOne : NO_PRINCIPAL_OF_SIX) {
            due("trustCost of k " + wrongOne, r.trustCost(wrongOne, 1), NameResolver.NONE);
            due("trustCost of x " + wrongOne, r.trustCost(0, wrongOne), NameResolver.NONE);
        }

        // Many cheap grants against one that is dear.
        NameResolver rows = with(4, cert(0, 0, 0, one(1)), cert(0, 1, 0, one(2)), cert(0, 2, 1, one(0)),
                cert(1, 0, 3, EMPTY));
        rows.grant(0, 0, one(0), false);
        due("trustCost(0, 3) by one grant", rows.trustCost(0, 3), 5);
        rows.grant(2, 3, EMPTY, false);
        rows.grant(1, 2, EMPTY, true);
        rows.grant(0, 1, EMPTY, true);
        due("trustCost(0, 3) by three grants", rows.trustCost(0, 3), 3);
    }

    private static void clear() {
        promise = 15;
        NameResolver r = with(4, cert(0, 0, 1, EMPTY), cert(0, 1, 0, one(0)));
        r.grant(0, 0, one(1), true);
        r.grant(0, 3, EMPTY, true);
        r.clear();
        due("certificates()", r.certificates(), 0);
        due("grants()", r.grants(), 0);
        due("members(0, 0)", r.members(0, 0), 0);
        due("members(0, 1)", r.members(0, 1), 0);
        due("cost(0, 1, 1)", r.cost(0, 1, 1), NameResolver.NONE);
        due("denotes(0, 0, 1)", r.denotes(0, one(0), 1), NameResolver.NONE);
        due("witness(0, 0, 1)", r.witness(0, 0, 1), NameResolver.NONE);
        due("matters(0)", r.matters(0), false);
        due("trusted(0)", r.trusted(0), 0);
        due("trustCost(0, 3)", r.trustCost(0, 3), NameResolver.NONE);
        due("revoke(0)", r.revoke(0), false);
        due("withdraw(0)", r.withdraw(0), false);
        due("denotes(3, empty, 3): the principals stay", r.denotes(3, EMPTY, 3), 0);
        due("denotes(4, empty, 4): the principals stay", r.denotes(4, EMPTY, 4), NameResolver.NONE);
        due("certify begins at 0 again", r.certify(2, 2, 3, EMPTY), 0);
        due("grant begins at 0 again", r.grant(1, 2, one(2), false), 0);
        due("members(2, 2)", r.members(2, 2), 0b1000);
        due("members(0, 1) does not come back", r.members(0, 1), 0);
        due("trusted(1)", r.trusted(1), 0b1000);
        due("trusted(0) does not come back", r.trusted(0), 0);
        r.clear();
        r.clear();
        due("certificates() when cleared twice", r.certificates(), 0);
    }

    private static void orderAndLimits() {
        promise = 16;
        NameResolver r = with(6, cert(0, 0, 1, EMPTY));
        for (int i = 1; i < 10; i++) {
            r.certify(i % 6, i % 3, i % 5, i);
        }
        for (int i = 0; i < 6; i++) {
            r.grant(i, (i + 1) % 6, i, i != 3);
        }
        long before = answersOf(r);
        due("certify: BAD k before FULL", r.certify(6, 0, 0, 0), NameResolver.BAD);
        due("certify: BAD n before FULL", r.certify(0, 3, 0, 0), NameResolver.BAD);
        due("certify: BAD p before FULL", r.certify(0, 0, -1, 0), NameResolver.BAD);
        due("certify: BAD path before FULL", r.certify(0, 0, 0, 13), NameResolver.BAD);
        due("certify: FULL", r.certify(5, 2, 5, EMPTY), NameResolver.FULL);
        due("grant: BAD k before FULL", r.grant(-1, 0, 0, true), NameResolver.BAD);
        due("grant: BAD p before FULL", r.grant(0, 6, 0, true), NameResolver.BAD);
        due("grant: BAD path before FULL", r.grant(0, 0, -1, true), NameResolver.BAD);
        due("grant: FULL", r.grant(4, 0, EMPTY, true), NameResolver.FULL);
        due("revoke of none", r.revoke(10), false);
        due("withdraw of none", r.withdraw(6), false);
        due("all answers after refusals", answersOf(r), before);
    }

    /** One number out of what the object answers about its state, in some two hundred calls. */
    private static long answersOf(NameResolver r) {
        long sum = r.certificates() * 64L + r.grants();
        for (int k = 0; k < 6; k++) {
            for (int n = 0; n < 3; n++) {
                for (int x = 0; x < 6; x++) {
                    sum = sum * 1000003L + r.cost(k, n, x);
                }
            }
            for (int x = 0; x < 6; x++) {
                sum = sum * 1000003L + r.trustCost(k, x);
            }
        }
        return sum;
    }
}
