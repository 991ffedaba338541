/**
 * The edges that 'What it is' and 'Terms' of the document name: which names and paths there are, what
 * holds only so, how far costs count, what a row of grants is, and the last of the 512 calls.
 */
public final class TermsTest {
    // Few certificates lead as far as cost 999: these, each (k, n, p, path), were found by a search.
    private static final int[][] DEAREST_MEMBER = {
        {3, 2, 2, 0}, {3, 1, 2, 12}, {4, 2, 0, 5}, {4, 0, 0, 0}, {0, 0, 3, 0},
        {2, 1, 4, 0}, {0, 0, 0, 12}, {0, 2, 3, 7}, {2, 0, 4, 11}, {2, 2, 0, 6},
    };
    private static final int[][] DENOTING_AT_998 = {
        {3, 2, 0, 8}, {0, 1, 3, 6}, {2, 0, 0, 0}, {2, 1, 3, 12}, {0, 2, 3, 10},
        {0, 1, 3, 0}, {3, 1, 0, 10}, {0, 2, 2, 12}, {3, 0, 2, 9}, {2, 2, 2, 0},
    };
    private static final int[][] DENOTING_AT_1000 = {
        {3, 2, 4, 0}, {5, 0, 0, 0}, {4, 2, 5, 0}, {0, 2, 5, 8}, {5, 1, 4, 10},
        {0, 1, 3, 0}, {3, 0, 4, 11}, {4, 0, 5, 6}, {4, 2, 4, 4}, {5, 0, 5, 7},
    };
    private static final int[][] TRUST_AT_999 = {
        {3, 2, 4, 0}, {5, 0, 0, 0}, {4, 2, 5, 0}, {0, 2, 3, 5}, {5, 1, 4, 10},
        {0, 1, 3, 0}, {3, 0, 4, 11}, {4, 0, 5, 9}, {4, 2, 4, 4}, {5, 2, 0, 11},
    };

    public static void main(String[] args) {
        Checks.sentence("the 512th call is answered as the first", TermsTest::lastCall);
        Checks.sentence("each principal has three local names 0, 1 and 2", TermsTest::namesAreApart);
        Checks.sentence("0 is the empty path", TermsTest::emptyPath);
        Checks.sentence("1 .. 3 is the path of the one name a", TermsTest::pathsOfOne);
        Checks.sentence("4 .. 12 is the path of the two names a, b", TermsTest::pathsOfTwo);
        Checks.sentence("some principal q: each one may stand in the middle", TermsTest::everyMiddle);
        Checks.sentence("some principal q: the same one in both halves", TermsTest::noMiddleInCommon);
        Checks.sentence("only so, in finitely many steps", TermsTest::ringsHoldNothing);
        Checks.sentence("a member through ten certificates in a chain", TermsTest::chainOfTen);
        Checks.sentence("each use counted", TermsTest::eachUseCounts);
        Checks.sentence("the least cost is the cost", TermsTest::leastOfMany);
        Checks.sentence("costs up to 999 count: a membership at 921", TermsTest::dearestMember);
        Checks.sentence("costs up to 999 count: denoting at 998, trust by it at 999", TermsTest::denotingNearTheLimit);
        Checks.sentence("what could be denoted only at 1000 is not", TermsTest::denotingPastTheLimit);
        Checks.sentence("costs up to 999 count: trust at 999", TermsTest::trustAtTheLimit);
        Checks.sentence("what could be trusted only at 1000 is not", TermsTest::trustPastTheLimit);
        Checks.sentence("a row of one or more grants", TermsTest::noRowOfNone);
        Checks.sentence("a row of all six grants", TermsTest::rowOfSix);
        Checks.sentence("principals y0 .. ym: each one may stand within a row", TermsTest::everyOneWithinARow);
        Checks.sentence("every grant of the row but perhaps the last is open", TermsTest::oneGrantNotOpen);
        Checks.sentence("the last grant of a row may be open or not", TermsTest::lastGrantOpenOrNot);
        Checks.sentence("every grant is given by the one before", TermsTest::givenByTheOneBefore);
        Checks.sentence("c = m + c1 + .. + cm", TermsTest::costOfARow);
        Checks.end();
    }

    /** 504 calls that come and go, and then eight whose answers rest on one another. */
    private static void lastCall() {
        NameResolver r = new NameResolver(6);
        for (int round = 0; round < 126; round++) {
            Checks.due("certify in round " + round, r.certify(round % 6, round % 3, 0, Checks.EMPTY), 0);
            Checks.due("grant in round " + round, r.grant(round % 6, 0, Checks.EMPTY, true), 0);
            Checks.due("revoke in round " + round, r.revoke(0), true);
            Checks.due("withdraw in round " + round, r.withdraw(0), true);
        }
        Checks.due("call 505", r.certify(4, 1, 5, Checks.EMPTY), 0);
        Checks.due("call 506", r.certify(3, 2, 4, Checks.one(1)), 1);
        Checks.due("call 507", r.grant(2, 3, Checks.one(2), true), 0);
        Checks.due("call 508", r.cost(3, 2, 5), 2);
        Checks.due("call 509", r.trusted(2), 0b100000);
        Checks.due("call 510", r.matters(0), true);
        Checks.due("call 511", r.revoke(0), true);
        Checks.due("call 512", r.trusted(2), 0);
    }

    private static void namesAreApart() {
        for (int k = 0; k < 6; k++) {
            for (int n = 0; n < 3; n++) {
                NameResolver r = Checks.with(6, Checks.cert(k, n, 5 - k, Checks.EMPTY));
                for (int owner = 0; owner < 6; owner++) {
                    for (int name = 0; name < 3; name++) {
                        int want = owner == k && name == n ? 1 << 5 - k : 0;
                        Checks.due("members(" + owner + ", " + name + ") when only (" + k + ", " + n + ") has one",
                                r.members(owner, name), want);
                    }
                }
            }
        }
    }

    private static void emptyPath() {
        NameResolver r = new NameResolver(6);
        for (int p = 0; p < 6; p++) {
            for (int x = 0; x < 6; x++) {
                int want = p == x ? 0 : NameResolver.NONE;
                Checks.due("denotes(" + p + ", 0, " + x + ")", r.denotes(p, 0, x), want);
            }
        }
    }

    /** Name a of 0 holds 1, and name b of 1 holds 2: tells which path of 0 leads to x, at which cost. */
    private static void pathLeads(int a, int b, int right, int x, int cost) {
        for (int path = 1; path <= 12; path++) {
            NameResolver r = Checks.with(4, Checks.cert(0, a, 1, Checks.EMPTY), Checks.cert(1, b, 2, Checks.EMPTY),
                    Checks.cert(3, 0, 0, path));
            r.grant(3, 0, path, false);
            boolean leads = path == right;
            String of = " of path " + path + " with names " + a + " and " + b;
            Checks.due("denotes" + of, r.denotes(0, path, x), leads ? cost : NameResolver.NONE);
            Checks.due("cost by a certificate" + of, r.cost(3, 0, x), leads ? cost + 1 : NameResolver.NONE);
            Checks.due("trustCost by a grant" + of, r.trustCost(3, x), leads ? cost + 1 : NameResolver.NONE);
        }
    }

    private static void pathsOfOne() {
        for (int a = 0; a < 3; a++) {
            pathLeads(a, 0, 1 + a, 1, 1);
        }
    }

    private static void pathsOfTwo() {
        for (int a = 0; a < 3; a++) {
            for (int b = 0; b < 3; b++) {
                pathLeads(a, b, 4 + 3 * a + b, 2, 2);
            }
        }
    }

    private static void everyMiddle() {
        for (int p = 0; p < 6; p++) {
            for (int q = 0; q < 6; q++) {
                for (int x = 0; x < 6; x++) {
                    NameResolver r = Checks.with(6, Checks.cert(p, 0, q, Checks.EMPTY), Checks.cert(q, 1, x, Checks.EMPTY));
                    String of = " from " + p + " by " + q + " to " + x;
                    Checks.due("denotes" + of, r.denotes(p, Checks.two(0, 1), x), 2);
                    Checks.due("denotes by the names turned" + of, r.denotes(p, Checks.two(1, 0), x), turned(p, q, x));
                }
            }
        }
    }

    /** When q is p, name 1 of p holds x; the way on is name 0 of x, that holds someone only if x is p. */
    private static int turned(int p, int q, int x) {
        return q == p && x == p ? 2 : NameResolver.NONE;
    }

    private static void noMiddleInCommon() {
        NameResolver r = Checks.with(6, Checks.cert(0, 0, 1, Checks.EMPTY), Checks.cert(2, 1, 5, Checks.EMPTY),
                Checks.cert(0, 0, 3, Checks.EMPTY), Checks.cert(4, 1, 5, Checks.EMPTY));
        Checks.due("denotes when no one is in both halves", r.denotes(0, Checks.two(0, 1), 5), NameResolver.NONE);
        r.certify(3, 1, 5, Checks.EMPTY);
        Checks.due("denotes when one is", r.denotes(0, Checks.two(0, 1), 5), 2);
    }

    /** The names of a chain: ten of the eighteen, no two alike. */
    private static int owner(int i) {
        return i % 6;
    }

    private static int name(int i) {
        return i / 6;
    }

    private static void ringsHoldNothing() {
        for (int length = 1; length <= 10; length++) {
            NameResolver r = new NameResolver(6);
            for (int i = 0; i < length; i++) {
                int next = (i + 1) % length;
                r.certify(owner(i), name(i), owner(next), Checks.one(name(next)));
            }
            for (int i = 0; i < length; i++) {
                Checks.due("members of name " + i + " in a ring of " + length, r.members(owner(i), name(i)), 0);
                Checks.due("matters(" + i + ") in a ring of " + length, r.matters(i), false);
            }
        }
        NameResolver twice = Checks.with(2, Checks.cert(0, 0, 0, Checks.two(0, 0)), Checks.cert(1, 0, 0, Checks.two(0, 1)),
                Checks.cert(0, 1, 1, Checks.EMPTY));
        Checks.due("members of a name that needs itself first", twice.members(0, 0), 0);
        Checks.due("members of a name that needs it", twice.members(1, 0), 0);
    }

    private static void chainOfTen() {
        NameResolver forwards = new NameResolver(6);
        NameResolver backwards = new NameResolver(6);
        for (int i = 0; i < 10; i++) {
            link(forwards, i);
            link(backwards, 9 - i);
        }
        for (int i = 0; i < 10; i++) {
            Checks.due("cost of link " + i, forwards.cost(owner(i), name(i), 5), 10 - i);
            Checks.due("cost of link " + i + " the other way", backwards.cost(owner(i), name(i), 5), 10 - i);
            Checks.due("witness of link " + i, forwards.witness(owner(i), name(i), 5), i);
            Checks.due("witness of link " + i + " the other way", backwards.witness(owner(i), name(i), 5), 9 - i);
            Checks.due("matters(" + i + ")", forwards.matters(i), true);
        }
        forwards.revoke(9);
        Checks.due("members of the first link without the last", forwards.members(owner(0), name(0)), 0);
    }

    private static void link(NameResolver r, int i) {
        if (i == 9) {
            r.certify(owner(9), name(9), 5, Checks.EMPTY);
        } else {
            r.certify(owner(i), name(i), owner(i + 1), Checks.one(name(i + 1)));
        }
    }

    private static void eachUseCounts() {
        NameResolver r = Checks.with(1, Checks.cert(0, 0, 0, Checks.EMPTY), Checks.cert(0, 1, 0, Checks.two(0, 0)),
                Checks.cert(0, 2, 0, Checks.two(1, 1)));
        Checks.due("cost with one use", r.cost(0, 0, 0), 1);
        Checks.due("cost with three uses of two certificates", r.cost(0, 1, 0), 3);
        Checks.due("cost with seven uses of three certificates", r.cost(0, 2, 0), 7);
        Checks.due("denotes with fourteen uses", r.denotes(0, Checks.two(2, 2), 0), 14);
        r.grant(0, 0, Checks.two(2, 2), false);
        Checks.due("trustCost with fourteen uses", r.trustCost(0, 0), 15);
    }

    /** Ten ways, of which the dearest come first; each time the cheapest is taken back. */
    private static void leastOfMany() {
        NameResolver r = new NameResolver(6);
        for (int i = 0; i < 5; i++) {
            link(r, 5 + i);
        }
        for (int i = 0; i < 4; i++) {
            r.certify(5, 2, owner(5 + i), Checks.one(name(5 + i)));
        }
        r.certify(5, 2, 5, Checks.EMPTY);
        Checks.due("cost by the cheapest of five", r.cost(5, 2, 5), 1);
        Checks.due("witness by the cheapest of five", r.witness(5, 2, 5), 9);
        for (int id = 9; id > 5; id--) {
            r.revoke(id);
            Checks.due("cost without " + id, r.cost(5, 2, 5), 12 - id);
            Checks.due("witness without " + id, r.witness(5, 2, 5), id - 1);
        }
        r.revoke(5);
        Checks.due("cost without any", r.cost(5, 2, 5), NameResolver.NONE);
    }

    private static void dearestMember() {
        NameResolver r = Checks.with(6, DEAREST_MEMBER);
        Checks.due("cost(2, 0, 3)", r.cost(2, 0, 3), 921);
        Checks.due("cost(2, 0, 0)", r.cost(2, 0, 0), 735);
        Checks.due("witness(2, 0, 3)", r.witness(2, 0, 3), 8);
        Checks.due("members(2, 0)", r.members(2, 0), 0b011101);
        Checks.due("denotes(2, 0 1, 2)", r.denotes(2, Checks.two(0, 1), 2), 928);
        for (int id = 0; id < 10; id++) {
            Checks.due("matters(" + id + ")", r.matters(id), true);
        }
    }

    private static void denotingNearTheLimit() {
        NameResolver r = Checks.with(6, DENOTING_AT_998);
        Checks.due("denotes(3, 1 0, 3), by 699 and 299", r.denotes(3, Checks.two(1, 0), 3), 998);
        r.grant(1, 3, Checks.two(1, 0), true);
        r.grant(4, 1, Checks.EMPTY, true);
        Checks.due("trustCost(1, 3)", r.trustCost(1, 3), 999);
        Checks.due("trusted(1)", r.trusted(1), 0b001101);
        Checks.due("trustCost(4, 3), one more than 999", r.trustCost(4, 3), NameResolver.NONE);
        Checks.due("trusted(4)", r.trusted(4), 0b000111);
    }

    private static void denotingPastTheLimit() {
        NameResolver r = Checks.with(6, DENOTING_AT_1000);
        Checks.due("cost(0, 2, 5)", r.cost(0, 2, 5), 667);
        Checks.due("cost(5, 1, 5)", r.cost(5, 1, 5), 333);
        Checks.due("denotes(0, 2 1, 4)", r.denotes(0, Checks.two(2, 1), 4), 840);
        Checks.due("denotes(0, 2 1, 5), by 667 and 333", r.denotes(0, Checks.two(2, 1), 5), NameResolver.NONE);
        r.grant(1, 0, Checks.two(2, 1), false);
        Checks.due("trustCost(1, 4)", r.trustCost(1, 4), 841);
        Checks.due("trustCost(1, 5), by what is not denoted", r.trustCost(1, 5), NameResolver.NONE);
        Checks.due("trusted(1)", r.trusted(1) & 0b110000, 0b010000);
    }

    /** 0 trusts 5 at 997, 2 with one grant and one certificate more, 1 with one grant more than 2. */
    private static NameResolver dearRows() {
        NameResolver r = Checks.with(6, TRUST_AT_999);
        r.grant(0, 5, Checks.two(2, 1), true);
        r.grant(4, 3, Checks.two(0, 2), true);
        r.grant(3, 5, Checks.two(2, 2), true);
        r.grant(2, 5, Checks.one(0), true);
        r.grant(1, 2, Checks.EMPTY, true);
        return r;
    }

    private static void trustAtTheLimit() {
        NameResolver r = dearRows();
        Checks.due("denotes(5, 2 1, 4)", r.denotes(5, Checks.two(2, 1), 4), 978);
        Checks.due("trustCost(0, 5)", r.trustCost(0, 5), 997);
        Checks.due("trustCost(2, 5)", r.trustCost(2, 5), 999);
        Checks.due("trusted(2)", r.trusted(2), 0b111001);
    }

    private static void trustPastTheLimit() {
        NameResolver r = dearRows();
        Checks.due("denotes(5, 2 1, 5), that would cost 1088", r.denotes(5, Checks.two(2, 1), 5), NameResolver.NONE);
        Checks.due("trustCost(1, 4), on the way", r.trustCost(1, 4), 835);
        Checks.due("trustCost(1, 5), one more than 999", r.trustCost(1, 5), NameResolver.NONE);
        Checks.due("trusted(1)", r.trusted(1), 0b011101);
    }

    private static void noRowOfNone() {
        NameResolver r = new NameResolver(6);
        r.grant(0, 1, Checks.EMPTY, true);
        Checks.due("trustCost(0, 0) by no grant", r.trustCost(0, 0), NameResolver.NONE);
        Checks.due("trustCost(1, 1) by no grant", r.trustCost(1, 1), NameResolver.NONE);
        Checks.due("trusted(0)", r.trusted(0), 0b10);
        Checks.due("trusted(1)", r.trusted(1), 0);
        r.grant(1, 0, Checks.EMPTY, false);
        Checks.due("trustCost(0, 0) by two grants", r.trustCost(0, 0), 2);
        Checks.due("trustCost(1, 1), that would go on past the one not open", r.trustCost(1, 1), NameResolver.NONE);
        r.grant(1, 1, Checks.EMPTY, false);
        Checks.due("trustCost(1, 1) by one grant", r.trustCost(1, 1), 1);
    }

    private static void rowOfSix() {
        for (boolean backwards : new boolean[] {false, true}) {
            NameResolver r = new NameResolver(6);
            for (int i = 0; i < 6; i++) {
                int k = backwards ? 5 - i : i;
                r.grant(k, (k + 1) % 6, Checks.EMPTY, k != 5);
            }
            for (int x = 1; x < 6; x++) {
                Checks.due("trustCost(0, " + x + ") in a ring", r.trustCost(0, x), x);
            }
            Checks.due("trustCost(0, 0) by all six", r.trustCost(0, 0), 6);
            Checks.due("trustCost(5, 1), past the one not open", r.trustCost(5, 1), NameResolver.NONE);
            Checks.due("trusted(0)", r.trusted(0), 0b111111);
            Checks.due("trusted(5)", r.trusted(5), 0b000001);
        }
    }

    private static void everyOneWithinARow() {
        for (int k = 0; k < 6; k++) {
            for (int y = 0; y < 6; y++) {
                for (int x = 0; x < 6; x++) {
                    NameResolver r = new NameResolver(6);
                    r.grant(k, y, Checks.EMPTY, true);
                    r.grant(y, x, Checks.EMPTY, false);
                    int want = x == y || k == y ? 1 : 2;
                    Checks.due("trustCost from " + k + " by " + y + " to " + x, r.trustCost(k, x), want);
                }
            }
        }
    }

    private static void oneGrantNotOpen() {
        for (int closed = 0; closed < 5; closed++) {
            NameResolver r = new NameResolver(6);
            for (int k = 0; k < 5; k++) {
                r.grant(k, k + 1, Checks.EMPTY, k != closed);
            }
            for (int k = 0; k < 5; k++) {
                for (int x = 0; x < 6; x++) {
                    boolean reached = x > k && (k > closed || x <= closed + 1);
                    Checks.due("trustCost(" + k + ", " + x + ") when grant " + closed + " is not open",
                            r.trustCost(k, x), reached ? x - k : NameResolver.NONE);
                }
            }
        }
    }

    private static void lastGrantOpenOrNot() {
        for (int bits = 0; bits < 4; bits++) {
            boolean first = (bits & 1) != 0;
            boolean second = (bits & 2) != 0;
            NameResolver r = new NameResolver(3);
            r.grant(0, 1, Checks.EMPTY, first);
            r.grant(1, 2, Checks.EMPTY, second);
            Checks.due("trustCost(0, 1), open is " + first, r.trustCost(0, 1), 1);
            Checks.due("trustCost(1, 2), open is " + second, r.trustCost(1, 2), 1);
            Checks.due("trustCost(0, 2), open are " + first + " and " + second,
                    r.trustCost(0, 2), first ? 2 : NameResolver.NONE);
        }
    }

    private static void givenByTheOneBefore() {
        NameResolver r = new NameResolver(6);
        r.grant(0, 1, Checks.EMPTY, true);
        r.grant(2, 3, Checks.EMPTY, true);
        Checks.due("trusted(0): no grant by 1", r.trusted(0), 0b0010);
        Checks.due("trusted(2)", r.trusted(2), 0b1000);
        r.grant(1, 2, Checks.EMPTY, true);
        Checks.due("trusted(0) through 1 and 2", r.trusted(0), 0b1110);
        Checks.due("trusted(3): not backwards", r.trusted(3), 0);
    }

    /** Two grants whose subjects are of three kinds each: the row costs the grants and both subjects. */
    private static void costOfARow() {
        int[] paths = {Checks.EMPTY, Checks.one(0), Checks.two(0, 0)};
        for (int first = 0; first < 3; first++) {
            for (int second = 0; second < 3; second++) {
                NameResolver r = Checks.with(6, Checks.cert(1, 0, 1, Checks.EMPTY), Checks.cert(2, 0, 2, Checks.EMPTY));
                r.grant(0, 1, paths[first], true);
                r.grant(1, 2, paths[second], false);
                Checks.due("trustCost(0, 1) at " + first, r.trustCost(0, 1), 1 + first);
                Checks.due("trustCost(1, 2) at " + second, r.trustCost(1, 2), 1 + second);
                Checks.due("trustCost(0, 2) at both", r.trustCost(0, 2), 2 + first + second);
            }
        }
    }
}
