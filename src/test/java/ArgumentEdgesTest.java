/**
 * Each argument of each call at the ends of its range, just outside of it and far outside of it, for
 * every count of principals: one test for each sentence of the document that names such an edge.
 */
public final class ArgumentEdgesTest {
    private static final int NAMES = 3;
    private static final int PATHS = 13;
    private static final int LAST_PATH = 12;

    public static void main(String[] args) {
        Checks.sentence("1: principals below 1 are clamped to 1", ArgumentEdgesTest::tooFewPrincipals);
        Checks.sentence("1: principals above 6 are clamped to 6", ArgumentEdgesTest::tooManyPrincipals);
        Checks.sentence("1: principals 1 .. 6 are taken as they are", ArgumentEdgesTest::principalsInRange);
        Checks.sentence("2: certify takes every argument in its range", ArgumentEdgesTest::certifyInside);
        Checks.sentence("2: BAD when k is no principal", ArgumentEdgesTest::certifyWrongOwner);
        Checks.sentence("2: BAD when p is no principal", ArgumentEdgesTest::certifyWrongPrincipal);
        Checks.sentence("2: BAD when n is not 0 .. 2", ArgumentEdgesTest::certifyWrongName);
        Checks.sentence("2: BAD when path is not 0 .. 12", ArgumentEdgesTest::certifyWrongPath);
        Checks.sentence("2: BAD when several are wrong", ArgumentEdgesTest::certifyAllWrong);
        Checks.sentence("3: revoke of no such number", ArgumentEdgesTest::revokeEdges);
        Checks.sentence("4: grant takes every argument in its range", ArgumentEdgesTest::grantInside);
        Checks.sentence("4: BAD when k is no principal", ArgumentEdgesTest::grantWrongGiver);
        Checks.sentence("4: BAD when p is no principal", ArgumentEdgesTest::grantWrongPrincipal);
        Checks.sentence("4: BAD when path is not 0 .. 12", ArgumentEdgesTest::grantWrongPath);
        Checks.sentence("4: BAD when several are wrong", ArgumentEdgesTest::grantAllWrong);
        Checks.sentence("5: withdraw of no such number", ArgumentEdgesTest::withdrawEdges);
        Checks.sentence("8: members at the ends of k and n", ArgumentEdgesTest::membersInside);
        Checks.sentence("8: 0 when k is no principal", ArgumentEdgesTest::membersWrongOwner);
        Checks.sentence("8: 0 when n is not 0 .. 2", ArgumentEdgesTest::membersWrongName);
        Checks.sentence("9: cost at the ends of k, n and x", ArgumentEdgesTest::costInside);
        Checks.sentence("9: NONE when k is no principal", ArgumentEdgesTest::costWrongOwner);
        Checks.sentence("9: NONE when x is no principal", ArgumentEdgesTest::costWrongMember);
        Checks.sentence("9: NONE when n is not 0 .. 2", ArgumentEdgesTest::costWrongName);
        Checks.sentence("10: denotes at the ends of p, path and x", ArgumentEdgesTest::denotesInside);
        Checks.sentence("10: NONE when p is no principal", ArgumentEdgesTest::denotesWrongPrincipal);
        Checks.sentence("10: NONE when x is no principal", ArgumentEdgesTest::denotesWrongMember);
        Checks.sentence("10: NONE when path is not 0 .. 12", ArgumentEdgesTest::denotesWrongPath);
        Checks.sentence("11: witness at the ends of k, n and x", ArgumentEdgesTest::witnessInside);
        Checks.sentence("11: NONE when cost is NONE for a wrong argument", ArgumentEdgesTest::witnessOutside);
        Checks.sentence("12: matters of no such number", ArgumentEdgesTest::mattersEdges);
        Checks.sentence("12: some name of some principal, be it the first or the last", ArgumentEdgesTest::mattersToAnyName);
        Checks.sentence("13: trusted at the ends of k", ArgumentEdgesTest::trustedInside);
        Checks.sentence("13: 0 when k is no principal", ArgumentEdgesTest::trustedOutside);
        Checks.sentence("14: trustCost at the ends of k and x", ArgumentEdgesTest::trustCostInside);
        Checks.sentence("14: NONE when k or x is no principal", ArgumentEdgesTest::trustCostOutside);
        Checks.end();
    }

    private static void tooFewPrincipals() {
        for (int asked : new int[] {0, -1, -6, -256, Integer.MIN_VALUE + 3, Integer.MIN_VALUE}) {
            hasPrincipals(asked, 1);
        }
    }

    private static void tooManyPrincipals() {
        for (int asked : new int[] {7, 8, 32, 256 + 3, 65536 + 3, Integer.MAX_VALUE - 1, Integer.MAX_VALUE}) {
            hasPrincipals(asked, 6);
        }
    }

    private static void principalsInRange() {
        for (int asked : Checks.COUNTS_OF_PRINCIPALS) {
            hasPrincipals(asked, asked);
        }
    }

    /** Asks by the empty path, that every principal has, and by every call that takes a principal. */
    private static void hasPrincipals(int asked, int want) {
        NameResolver r = new NameResolver(asked);
        for (int p = -1; p <= 7; p++) {
            boolean is = p >= 0 && p < want;
            String of = " of " + p + " among " + asked;
            Checks.due("denotes" + of, r.denotes(p, Checks.EMPTY, p), is ? 0 : NameResolver.NONE);
            Checks.due("certify" + of, r.certify(p, 0, p, Checks.EMPTY), is ? 0 : NameResolver.BAD);
            Checks.due("members" + of, r.members(p, 0), is ? 1 << p : 0);
            Checks.due("grant" + of, r.grant(p, p, Checks.EMPTY, true), is ? 0 : NameResolver.BAD);
            Checks.due("trusted" + of, r.trusted(p), is ? 1 << p : 0);
            r.clear();
        }
    }

    private static void certifyInside() {
        for (int count : Checks.COUNTS_OF_PRINCIPALS) {
            for (int k : Checks.insideEdges(count)) {
                for (int n = 0; n < NAMES; n++) {
                    for (int p : Checks.insideEdges(count)) {
                        for (int path = 0; path < PATHS; path++) {
                            takes(new NameResolver(count), k, n, p, path);
                        }
                    }
                }
            }
        }
    }

    private static void takes(NameResolver r, int k, int n, int p, int path) {
        String call = "certify(" + k + ", " + n + ", " + p + ", " + path + ")";
        Checks.due(call, r.certify(k, n, p, path), 0);
        Checks.due("certificates() after " + call, r.certificates(), 1);
        Checks.due("members() after " + call, r.members(k, n), path == Checks.EMPTY ? 1 << p : 0);
    }

    private static void certifyWrongOwner() {
        for (int count : Checks.COUNTS_OF_PRINCIPALS) {
            NameResolver r = new NameResolver(count);
            for (int k : Checks.outside(count)) {
                Checks.due("certify of k " + k + " among " + count, r.certify(k, 0, 0, 0), NameResolver.BAD);
            }
            Checks.due("certificates()", r.certificates(), 0);
        }
    }

    private static void certifyWrongPrincipal() {
        for (int count : Checks.COUNTS_OF_PRINCIPALS) {
            NameResolver r = new NameResolver(count);
            for (int p : Checks.outside(count)) {
                for (int path = 0; path < PATHS; path++) {
                    Checks.due("certify of p " + p + " among " + count, r.certify(0, 0, p, path), NameResolver.BAD);
                }
            }
            Checks.due("certificates()", r.certificates(), 0);
        }
    }

    private static void certifyWrongName() {
        NameResolver r = new NameResolver(6);
        for (int n : Checks.outside(NAMES)) {
            Checks.due("certify of n " + n, r.certify(0, n, 0, 0), NameResolver.BAD);
            Checks.due("certify of n " + n + " by the last", r.certify(5, n, 5, LAST_PATH), NameResolver.BAD);
        }
        Checks.due("certificates()", r.certificates(), 0);
    }

    private static void certifyWrongPath() {
        NameResolver r = new NameResolver(6);
        for (int path : Checks.outside(PATHS)) {
            Checks.due("certify of path " + path, r.certify(0, 0, 0, path), NameResolver.BAD);
            Checks.due("certify of path " + path + " by the last", r.certify(5, 2, 5, path), NameResolver.BAD);
        }
        Checks.due("certificates()", r.certificates(), 0);
    }

    private static void certifyAllWrong() {
        NameResolver r = new NameResolver(6);
        for (int any : new int[] {-1, 13, Integer.MIN_VALUE, Integer.MAX_VALUE}) {
            Checks.due("certify of " + any + " alone", r.certify(any, any, any, any), NameResolver.BAD);
            Checks.due("certify of right k", r.certify(0, any, any, any), NameResolver.BAD);
            Checks.due("certify of right path", r.certify(any, any, any, 0), NameResolver.BAD);
        }
        Checks.due("certificates()", r.certificates(), 0);
    }

    private static void revokeEdges() {
        NameResolver r = Checks.full();
        for (int id : Checks.outside(10)) {
            Checks.due("revoke(" + id + ") of ten", r.revoke(id), false);
        }
        Checks.due("certificates()", r.certificates(), 0b1111111111);
        for (int id : Checks.insideEdges(10)) {
            Checks.due("revoke(" + id + ") of ten", r.revoke(id), true);
        }
        Checks.due("certificates()", r.certificates(), 0b0111111110);
        NameResolver nothing = new NameResolver(6);
        for (int id = -1; id <= 10; id++) {
            Checks.due("revoke(" + id + ") of none", nothing.revoke(id), false);
        }
    }

    private static void grantInside() {
        for (int count : Checks.COUNTS_OF_PRINCIPALS) {
            for (int k : Checks.insideEdges(count)) {
                for (int p : Checks.insideEdges(count)) {
                    for (int path = 0; path < PATHS; path++) {
                        grants(new NameResolver(count), k, p, path, true);
                        grants(new NameResolver(count), k, p, path, false);
                    }
                }
            }
        }
    }

    private static void grants(NameResolver r, int k, int p, int path, boolean open) {
        String call = "grant(" + k + ", " + p + ", " + path + ", " + open + ")";
        Checks.due(call, r.grant(k, p, path, open), 0);
        Checks.due("grants() after " + call, r.grants(), 1);
        Checks.due("trusted() after " + call, r.trusted(k), path == Checks.EMPTY ? 1 << p : 0);
    }

    private static void grantWrongGiver() {
        for (int count : Checks.COUNTS_OF_PRINCIPALS) {
            NameResolver r = new NameResolver(count);
            for (int k : Checks.outside(count)) {
                Checks.due("open grant of k " + k + " among " + count, r.grant(k, 0, 0, true), NameResolver.BAD);
                Checks.due("grant of k " + k + " among " + count, r.grant(k, 0, 0, false), NameResolver.BAD);
            }
            Checks.due("grants()", r.grants(), 0);
        }
    }

    private static void grantWrongPrincipal() {
        for (int count : Checks.COUNTS_OF_PRINCIPALS) {
            NameResolver r = new NameResolver(count);
            for (int p : Checks.outside(count)) {
                for (int path = 0; path < PATHS; path++) {
                    Checks.due("grant of p " + p + " among " + count, r.grant(0, p, path, true), NameResolver.BAD);
                }
            }
            Checks.due("grants()", r.grants(), 0);
        }
    }

    private static void grantWrongPath() {
        NameResolver r = new NameResolver(6);
        for (int path : Checks.outside(PATHS)) {
            Checks.due("open grant of path " + path, r.grant(0, 0, path, true), NameResolver.BAD);
            Checks.due("grant of path " + path, r.grant(5, 5, path, false), NameResolver.BAD);
        }
        Checks.due("grants()", r.grants(), 0);
    }

    private static void grantAllWrong() {
        NameResolver r = new NameResolver(6);
        for (int any : new int[] {-1, 13, Integer.MIN_VALUE, Integer.MAX_VALUE}) {
            Checks.due("grant of " + any + " alone", r.grant(any, any, any, true), NameResolver.BAD);
            Checks.due("grant of right k", r.grant(0, any, any, true), NameResolver.BAD);
            Checks.due("grant of right path", r.grant(any, any, 0, true), NameResolver.BAD);
        }
        Checks.due("grants()", r.grants(), 0);
    }

    private static void withdrawEdges() {
        NameResolver r = Checks.full();
        for (int id : Checks.outside(6)) {
            Checks.due("withdraw(" + id + ") of six", r.withdraw(id), false);
        }
        Checks.due("grants()", r.grants(), 0b111111);
        for (int id : Checks.insideEdges(6)) {
            Checks.due("withdraw(" + id + ") of six", r.withdraw(id), true);
        }
        Checks.due("grants()", r.grants(), 0b011110);
        NameResolver nothing = new NameResolver(6);
        for (int id = -1; id <= 6; id++) {
            Checks.due("withdraw(" + id + ") of none", nothing.withdraw(id), false);
        }
    }

    /** The first and the last principal, each in the first and the last name of both. */
    private static NameResolver endsInEnds(int count) {
        int last = count - 1;
        return Checks.with(count,
                Checks.cert(0, 0, 0, Checks.EMPTY), Checks.cert(0, 0, last, Checks.EMPTY),
                Checks.cert(0, 2, 0, Checks.EMPTY), Checks.cert(0, 2, last, Checks.EMPTY),
                Checks.cert(last, 0, 0, Checks.EMPTY), Checks.cert(last, 0, last, Checks.EMPTY),
                Checks.cert(last, 2, 0, Checks.EMPTY), Checks.cert(last, 2, last, Checks.EMPTY));
    }

    private static void membersInside() {
        for (int count : Checks.COUNTS_OF_PRINCIPALS) {
            NameResolver r = endsInEnds(count);
            int ends = 1 | 1 << count - 1;
            for (int k : Checks.insideEdges(count)) {
                Checks.due("members(" + k + ", 0) of " + count, r.members(k, 0), ends);
                Checks.due("members(" + k + ", 1) of " + count, r.members(k, 1), 0);
                Checks.due("members(" + k + ", 2) of " + count, r.members(k, 2), ends);
            }
        }
    }

    private static void membersWrongOwner() {
        for (int count : Checks.COUNTS_OF_PRINCIPALS) {
            NameResolver r = endsInEnds(count);
            for (int k : Checks.outside(count)) {
                for (int n = 0; n < NAMES; n++) {
                    Checks.due("members(" + k + ", " + n + ") of " + count, r.members(k, n), 0);
                }
            }
        }
    }

    private static void membersWrongName() {
        for (int count : Checks.COUNTS_OF_PRINCIPALS) {
            NameResolver r = endsInEnds(count);
            for (int n : Checks.outside(NAMES)) {
                for (int k : Checks.insideEdges(count)) {
                    Checks.due("members(" + k + ", " + n + ") of " + count, r.members(k, n), 0);
                }
            }
        }
    }

    private static void costInside() {
        for (int count : Checks.COUNTS_OF_PRINCIPALS) {
            NameResolver r = endsInEnds(count);
            for (int k : Checks.insideEdges(count)) {
                for (int x : Checks.insideEdges(count)) {
                    String of = " of " + k + " and " + x + " among " + count;
                    Checks.due("cost in name 0" + of, r.cost(k, 0, x), 1);
                    Checks.due("cost in name 1" + of, r.cost(k, 1, x), NameResolver.NONE);
                    Checks.due("cost in name 2" + of, r.cost(k, 2, x), 1);
                }
            }
        }
    }

    private static void costWrongOwner() {
        for (int count : Checks.COUNTS_OF_PRINCIPALS) {
            NameResolver r = endsInEnds(count);
            for (int k : Checks.outside(count)) {
                for (int x : Checks.insideEdges(count)) {
                    Checks.due("cost of k " + k + " among " + count, r.cost(k, 0, x), NameResolver.NONE);
                    Checks.due("cost of k " + k + " among " + count, r.cost(k, 2, x), NameResolver.NONE);
                }
            }
        }
    }

    private static void costWrongMember() {
        for (int count : Checks.COUNTS_OF_PRINCIPALS) {
            NameResolver r = endsInEnds(count);
            for (int x : Checks.outside(count)) {
                for (int k : Checks.insideEdges(count)) {
                    Checks.due("cost of x " + x + " among " + count, r.cost(k, 0, x), NameResolver.NONE);
                    Checks.due("cost of x " + x + " among " + count, r.cost(k, 2, x), NameResolver.NONE);
                }
            }
        }
    }

    private static void costWrongName() {
        for (int count : Checks.COUNTS_OF_PRINCIPALS) {
            NameResolver r = endsInEnds(count);
            for (int n : Checks.outside(NAMES)) {
                for (int x : Checks.insideEdges(count)) {
                    Checks.due("cost of n " + n + " among " + count, r.cost(0, n, x), NameResolver.NONE);
                    Checks.due("cost of n " + n + " among " + count, r.cost(count - 1, n, x), NameResolver.NONE);
                }
            }
        }
    }

    private static void denotesInside() {
        for (int count : Checks.COUNTS_OF_PRINCIPALS) {
            NameResolver r = endsInEnds(count);
            for (int p : Checks.insideEdges(count)) {
                for (int x : Checks.insideEdges(count)) {
                    String of = " of " + p + " and " + x + " among " + count;
                    Checks.due("denotes by path 0" + of, r.denotes(p, 0, x), p == x ? 0 : NameResolver.NONE);
                    Checks.due("denotes by path 1" + of, r.denotes(p, 1, x), 1);
                    Checks.due("denotes by path 3" + of, r.denotes(p, 3, x), 1);
                    Checks.due("denotes by path 4" + of, r.denotes(p, 4, x), 2);
                    Checks.due("denotes by path 12" + of, r.denotes(p, LAST_PATH, x), 2);
                }
            }
        }
    }

    private static void denotesWrongPrincipal() {
        for (int count : Checks.COUNTS_OF_PRINCIPALS) {
            NameResolver r = endsInEnds(count);
            for (int p : Checks.outside(count)) {
                for (int path = 0; path < PATHS; path++) {
                    Checks.due("denotes of p " + p + " by " + path, r.denotes(p, path, 0), NameResolver.NONE);
                }
                Checks.due("denotes of p and x " + p, r.denotes(p, Checks.EMPTY, p), NameResolver.NONE);
            }
        }
    }

    private static void denotesWrongMember() {
        for (int count : Checks.COUNTS_OF_PRINCIPALS) {
            NameResolver r = endsInEnds(count);
            for (int x : Checks.outside(count)) {
                for (int path = 0; path < PATHS; path++) {
                    Checks.due("denotes of x " + x + " by " + path, r.denotes(count - 1, path, x), NameResolver.NONE);
                }
            }
        }
    }

    private static void denotesWrongPath() {
        for (int count : Checks.COUNTS_OF_PRINCIPALS) {
            NameResolver r = endsInEnds(count);
            for (int path : Checks.outside(PATHS)) {
                for (int x : Checks.insideEdges(count)) {
                    Checks.due("denotes by path " + path, r.denotes(0, path, x), NameResolver.NONE);
                    Checks.due("denotes by path " + path, r.denotes(count - 1, path, x), NameResolver.NONE);
                }
            }
        }
    }

    private static void witnessInside() {
        NameResolver r = endsInEnds(6);
        int id = 0;
        for (int k : Checks.insideEdges(6)) {
            for (int n : Checks.insideEdges(NAMES)) {
                for (int x : Checks.insideEdges(6)) {
                    Checks.due("witness(" + k + ", " + n + ", " + x + ")", r.witness(k, n, x), id);
                    id++;
                }
            }
        }
    }

    private static void witnessOutside() {
        for (int count : Checks.COUNTS_OF_PRINCIPALS) {
            NameResolver r = endsInEnds(count);
            for (int any : Checks.outside(count)) {
                Checks.due("witness of k " + any, r.witness(any, 0, 0), NameResolver.NONE);
                Checks.due("witness of k " + any, r.witness(any, 2, count - 1), NameResolver.NONE);
                Checks.due("witness of x " + any, r.witness(0, 0, any), NameResolver.NONE);
                Checks.due("witness of x " + any, r.witness(count - 1, 2, any), NameResolver.NONE);
            }
            for (int n : Checks.outside(NAMES)) {
                Checks.due("witness of n " + n, r.witness(0, n, 0), NameResolver.NONE);
                Checks.due("witness of n " + n, r.witness(count - 1, n, count - 1), NameResolver.NONE);
            }
            NameResolver paths = Checks.with(count, Checks.cert(0, 0, 0, Checks.one(1)),
                    Checks.cert(0, 0, 0, Checks.two(1, 1)), Checks.cert(0, 1, 0, Checks.EMPTY));
            for (int x : Checks.outside(count)) {
                Checks.due("witness of x " + x + " by paths", paths.witness(0, 0, x), NameResolver.NONE);
            }
        }
    }

    private static void mattersEdges() {
        NameResolver r = Checks.with(6);
        for (int id = 0; id < 10; id++) {
            Checks.due("certify " + id, r.certify(id / 3, id % 3, 5, Checks.EMPTY), id);
        }
        for (int id = 0; id < 10; id++) {
            Checks.due("matters(" + id + "), each with a member of its own", r.matters(id), true);
        }
        for (int id : Checks.outside(10)) {
            Checks.due("matters(" + id + ") of ten", r.matters(id), false);
        }
        NameResolver nothing = new NameResolver(6);
        for (int id = -1; id <= 10; id++) {
            Checks.due("matters(" + id + ") of none", nothing.matters(id), false);
        }
    }

    private static void mattersToAnyName() {
        for (int k = 0; k < 6; k++) {
            for (int n = 0; n < 3; n++) {
                for (int x = 0; x < 6; x++) {
                    NameResolver r = Checks.with(6, Checks.cert(k, n, x, Checks.EMPTY));
                    Checks.due("matters(0) of " + x + " in name " + n + " of " + k, r.matters(0), true);
                }
            }
        }
    }

    private static NameResolver endsTrustEnds(int count) {
        NameResolver r = new NameResolver(count);
        for (int k : Checks.insideEdges(count)) {
            for (int x : Checks.insideEdges(count)) {
                r.grant(k, x, Checks.EMPTY, false);
            }
        }
        return r;
    }

    private static void trustedInside() {
        for (int count : Checks.COUNTS_OF_PRINCIPALS) {
            NameResolver r = endsTrustEnds(count);
            for (int k = 0; k < count; k++) {
                int want = k == 0 || k == count - 1 ? 1 | 1 << count - 1 : 0;
                Checks.due("trusted(" + k + ") of " + count, r.trusted(k), want);
            }
        }
    }

    private static void trustedOutside() {
        for (int count : Checks.COUNTS_OF_PRINCIPALS) {
            NameResolver r = endsTrustEnds(count);
            for (int k : Checks.outside(count)) {
                Checks.due("trusted(" + k + ") of " + count, r.trusted(k), 0);
            }
        }
    }

    private static void trustCostInside() {
        for (int count : Checks.COUNTS_OF_PRINCIPALS) {
            NameResolver r = endsTrustEnds(count);
            for (int k : Checks.insideEdges(count)) {
                for (int x : Checks.insideEdges(count)) {
                    Checks.due("trustCost(" + k + ", " + x + ") of " + count, r.trustCost(k, x), 1);
                }
            }
        }
    }

    private static void trustCostOutside() {
        for (int count : Checks.COUNTS_OF_PRINCIPALS) {
            NameResolver r = endsTrustEnds(count);
            for (int any : Checks.outside(count)) {
                for (int right : Checks.insideEdges(count)) {
                    Checks.due("trustCost of k " + any, r.trustCost(any, right), NameResolver.NONE);
                    Checks.due("trustCost of x " + any, r.trustCost(right, any), NameResolver.NONE);
                }
                Checks.due("trustCost of k and x " + any, r.trustCost(any, any), NameResolver.NONE);
            }
        }
    }
}
