/**
 * Nothing there, all ten certificates or all six grants there, and a number that is given back and given
 * out again: one test for each sentence of the document that names such an edge.
 */
public final class CapacityTest {
    private static final int ALL_CERTIFICATES = 0b1111111111;
    private static final int ALL_GRANTS = 0b111111;

    public static void main(String[] args) {
        Checks.sentence("1: no certificates and no grants", CapacityTest::nothingIsThere);
        Checks.sentence("2: FULL when ten are there", CapacityTest::tenCertificates);
        Checks.sentence("2: FULL not before ten are there", CapacityTest::certifyAfterEachRevoke);
        Checks.sentence("2: the least number that no certificate holds", CapacityTest::leastOfTwoCertificates);
        Checks.sentence("2: a number given out again says the new thing", CapacityTest::certificateAnew);
        Checks.sentence("2: six grants leave room for certificates", CapacityTest::certifyBesideAllGrants);
        Checks.sentence("3: takes the last certificate back", CapacityTest::revokeDownToNothing);
        Checks.sentence("3: what is taken back carries nothing on", CapacityTest::revokeWithinAChain);
        Checks.sentence("3: false for a number that was taken back", CapacityTest::revokeTwice);
        Checks.sentence("4: FULL when six are there", CapacityTest::sixGrants);
        Checks.sentence("4: FULL not before six are there", CapacityTest::grantAfterEachWithdraw);
        Checks.sentence("4: the least number no grant holds", CapacityTest::leastOfTwoGrants);
        Checks.sentence("4: a number given out again says the new thing", CapacityTest::grantAnew);
        Checks.sentence("4: ten certificates leave room for grants", CapacityTest::grantBesideAllCertificates);
        Checks.sentence("5: takes the last grant back", CapacityTest::withdrawDownToNothing);
        Checks.sentence("5: what is taken back carries nothing on", CapacityTest::withdrawWithinARow);
        Checks.sentence("5: false for a number that was taken back", CapacityTest::withdrawTwice);
        Checks.sentence("6: bit i for certificate i, each alone", CapacityTest::eachCertificateAlone);
        Checks.sentence("7: bit i for grant i, each alone", CapacityTest::eachGrantAlone);
        Checks.sentence("8: every principal a member", CapacityTest::allAreMembers);
        Checks.sentence("11: the witness has the first or the last number", CapacityTest::witnessAtTheEnds);
        Checks.sentence("11: the least number among ten alike", CapacityTest::witnessAmongTen);
        Checks.sentence("12: one of ten alike does not matter, the last one does", CapacityTest::mattersAmongTen);
        Checks.sentence("13: everyone trusted", CapacityTest::allAreTrusted);
        Checks.sentence("15: clear of nothing", CapacityTest::clearOfNothing);
        Checks.sentence("15: clear of all there can be", CapacityTest::clearOfAll);
        Checks.sentence("15: clear of certificates alone, of grants alone", CapacityTest::clearOfOneKind);
        Checks.sentence("15: the numbers begin at 0 again", CapacityTest::numbersAfterClear);
        Checks.sentence("15: what is taken back does not come back", CapacityTest::nothingComesBackAfterClear);
        Checks.end();
    }

    private static void answersNothing(String when, NameResolver r, int count) {
        Checks.due("certificates() " + when, r.certificates(), 0);
        Checks.due("grants() " + when, r.grants(), 0);
        for (int k = 0; k < count; k++) {
            for (int n = 0; n < 3; n++) {
                Checks.due("members(" + k + ", " + n + ") " + when, r.members(k, n), 0);
                Checks.due("cost(" + k + ", " + n + ", 0) " + when, r.cost(k, n, 0), NameResolver.NONE);
                Checks.due("cost of the last " + when, r.cost(k, n, count - 1), NameResolver.NONE);
                Checks.due("witness(" + k + ", " + n + ", 0) " + when, r.witness(k, n, 0), NameResolver.NONE);
            }
            Checks.due("trusted(" + k + ") " + when, r.trusted(k), 0);
            for (int x = 0; x < count; x++) {
                Checks.due("trustCost(" + k + ", " + x + ") " + when, r.trustCost(k, x), NameResolver.NONE);
            }
            for (int path = 0; path < 13; path++) {
                int want = path == Checks.EMPTY ? 0 : NameResolver.NONE;
                Checks.due("denotes(" + k + ", " + path + ", " + k + ") " + when, r.denotes(k, path, k), want);
            }
        }
        for (int id = 0; id < 10; id++) {
            Checks.due("matters(" + id + ") " + when, r.matters(id), false);
        }
    }

    private static void nothingIsThere() {
        for (int count : Checks.COUNTS_OF_PRINCIPALS) {
            answersNothing("of a new object of " + count, new NameResolver(count), count);
        }
    }

    private static void tenCertificates() {
        NameResolver r = new NameResolver(1);
        for (int id = 0; id < 10; id++) {
            Checks.due("certify when " + id + " are there", r.certify(0, 0, 0, Checks.EMPTY), id);
        }
        for (int path = 0; path < 13; path++) {
            Checks.due("certify when ten are there", r.certify(0, 1, 0, path), NameResolver.FULL);
        }
        Checks.due("certificates()", r.certificates(), ALL_CERTIFICATES);
        Checks.due("members(0, 1), that no certificate got", r.members(0, 1), 0);
    }

    private static void certifyAfterEachRevoke() {
        NameResolver r = Checks.full();
        for (int id = 9; id >= 0; id--) {
            Checks.due("revoke(" + id + ")", r.revoke(id), true);
            Checks.due("certificates() without " + id, r.certificates(), ALL_CERTIFICATES & ~(1 << id));
            Checks.due("certify when nine are there", r.certify(0, 0, 0, Checks.EMPTY), id);
            Checks.due("certificates() with " + id, r.certificates(), ALL_CERTIFICATES);
            Checks.due("certify when ten are there again", r.certify(0, 0, 0, Checks.EMPTY), NameResolver.FULL);
        }
    }

    private static void leastOfTwoCertificates() {
        NameResolver r = Checks.full();
        for (int low = 0; low < 10; low++) {
            for (int high = low + 1; high < 10; high++) {
                r.revoke(low);
                r.revoke(high);
                Checks.due("certify without " + low + " and " + high, r.certify(1, 1, 1, 1), low);
                Checks.due("certify without " + high, r.certify(1, 1, 1, 1), high);
                r.revoke(high);
                r.revoke(low);
                Checks.due("certify when the greater went first", r.certify(1, 1, 1, 1), low);
                Checks.due("certify without the greater", r.certify(1, 1, 1, 1), high);
            }
        }
    }

    private static void certificateAnew() {
        for (int id = 0; id < 10; id++) {
            NameResolver r = new NameResolver(6);
            for (int i = 0; i < 10; i++) {
                r.certify(0, 0, 0, i == id ? Checks.EMPTY : Checks.one(1));
            }
            Checks.due("members(0, 0) by " + id, r.members(0, 0), 0b1);
            r.revoke(id);
            Checks.due("members(0, 0) without " + id, r.members(0, 0), 0);
            Checks.due("certify gives " + id + " out again", r.certify(4, 2, 5, Checks.EMPTY), id);
            Checks.due("members(0, 0), as it said before", r.members(0, 0), 0);
            Checks.due("members(4, 2), as it says now", r.members(4, 2), 0b100000);
            Checks.due("witness(4, 2, 5)", r.witness(4, 2, 5), id);
            Checks.due("matters(" + id + ")", r.matters(id), true);
            r.revoke(id);
            Checks.due("certify gives " + id + " out once more", r.certify(4, 2, 4, Checks.two(0, 2)), id);
            Checks.due("members(4, 2), as it said before", r.members(4, 2), 0);
        }
    }

    private static void certifyBesideAllGrants() {
        NameResolver r = new NameResolver(6);
        for (int id = 0; id < 6; id++) {
            r.grant(id, 0, Checks.EMPTY, true);
        }
        for (int id = 0; id < 10; id++) {
            Checks.due("certify beside six grants", r.certify(0, 0, 0, Checks.EMPTY), id);
        }
        Checks.due("grants()", r.grants(), ALL_GRANTS);
    }

    private static void revokeDownToNothing() {
        NameResolver r = new NameResolver(3);
        for (int id = 0; id < 10; id++) {
            r.certify(id % 3, id / 4, (id + 1) % 3, id);
        }
        for (int i = 0; i < 10; i++) {
            int id = (i * 7 + 3) % 10;
            Checks.due("revoke(" + id + ")", r.revoke(id), true);
        }
        answersNothing("when all are revoked", r, 3);
        Checks.due("certify begins at 0 again", r.certify(0, 0, 0, 0), 0);
    }

    /** Name 0 of each of five principals is name 0 of the next one; the last one's is 5 itself. */
    private static void revokeWithinAChain() {
        for (int gone = 0; gone < 5; gone++) {
            NameResolver r = new NameResolver(6);
            for (int k = 0; k < 5; k++) {
                r.certify(k, 0, k + 1, k == 4 ? Checks.EMPTY : Checks.one(0));
            }
            r.revoke(gone);
            for (int k = 0; k < 5; k++) {
                int want = k > gone ? 5 - k : NameResolver.NONE;
                Checks.due("cost(" + k + ", 0, 5) without " + gone, r.cost(k, 0, 5), want);
            }
        }
    }

    private static void revokeTwice() {
        NameResolver r = Checks.full();
        for (int id = 0; id < 10; id++) {
            Checks.due("revoke(" + id + ")", r.revoke(id), true);
            Checks.due("revoke(" + id + ") again", r.revoke(id), false);
            Checks.due("matters(" + id + ") of what is gone", r.matters(id), false);
            Checks.due("certificates()", r.certificates(), ALL_CERTIFICATES & -1 << id + 1);
        }
    }

    private static void sixGrants() {
        NameResolver r = new NameResolver(2);
        for (int id = 0; id < 6; id++) {
            Checks.due("grant when " + id + " are there", r.grant(0, 0, Checks.EMPTY, id % 2 == 0), id);
        }
        for (int path = 0; path < 13; path++) {
            Checks.due("open grant when six are there", r.grant(1, 0, path, true), NameResolver.FULL);
            Checks.due("grant when six are there", r.grant(1, 0, path, false), NameResolver.FULL);
        }
        Checks.due("grants()", r.grants(), ALL_GRANTS);
        Checks.due("trusted(1), that no grant got", r.trusted(1), 0);
    }

    private static void grantAfterEachWithdraw() {
        NameResolver r = Checks.full();
        for (int id = 5; id >= 0; id--) {
            Checks.due("withdraw(" + id + ")", r.withdraw(id), true);
            Checks.due("grants() without " + id, r.grants(), ALL_GRANTS & ~(1 << id));
            Checks.due("grant when five are there", r.grant(0, 0, Checks.EMPTY, true), id);
            Checks.due("grants() with " + id, r.grants(), ALL_GRANTS);
            Checks.due("grant when six are there again", r.grant(0, 0, Checks.EMPTY, true), NameResolver.FULL);
        }
    }

    private static void leastOfTwoGrants() {
        NameResolver r = Checks.full();
        for (int low = 0; low < 6; low++) {
            for (int high = low + 1; high < 6; high++) {
                r.withdraw(low);
                r.withdraw(high);
                Checks.due("grant without " + low + " and " + high, r.grant(1, 1, 1, true), low);
                Checks.due("grant without " + high, r.grant(1, 1, 1, true), high);
                r.withdraw(high);
                r.withdraw(low);
                Checks.due("grant when the greater went first", r.grant(1, 1, 1, true), low);
                Checks.due("grant without the greater", r.grant(1, 1, 1, true), high);
            }
        }
    }

    private static void grantAnew() {
        for (int id = 0; id < 6; id++) {
            NameResolver r = new NameResolver(6);
            for (int i = 0; i < 6; i++) {
                r.grant(0, i == id ? 1 : 0, i == id ? Checks.EMPTY : Checks.one(1), true);
            }
            Checks.due("trusted(0) by " + id, r.trusted(0), 0b10);
            r.withdraw(id);
            Checks.due("trusted(0) without " + id, r.trusted(0), 0);
            Checks.due("grant gives " + id + " out again", r.grant(0, 4, Checks.EMPTY, false), id);
            Checks.due("trusted(0), as it says now", r.trusted(0), 0b10000);
            int other = (id + 1) % 6;
            r.withdraw(other);
            Checks.due("grant gives " + other + " out", r.grant(4, 5, Checks.EMPTY, true), other);
            Checks.due("trusted(0): what was open before is not now", r.trusted(0), 0b10000);
            r.withdraw(id);
            Checks.due("grant gives " + id + " out once more", r.grant(0, 4, Checks.EMPTY, true), id);
            Checks.due("trusted(0): what was not open before is now", r.trusted(0), 0b110000);
        }
    }

    private static void grantBesideAllCertificates() {
        NameResolver r = new NameResolver(6);
        for (int id = 0; id < 10; id++) {
            r.certify(0, 0, 0, Checks.EMPTY);
        }
        for (int id = 0; id < 6; id++) {
            Checks.due("grant beside ten certificates", r.grant(0, 0, Checks.EMPTY, false), id);
        }
        Checks.due("certificates()", r.certificates(), ALL_CERTIFICATES);
    }

    private static void withdrawDownToNothing() {
        NameResolver r = new NameResolver(3);
        for (int id = 0; id < 6; id++) {
            r.grant(id % 3, (id + 1) % 3, Checks.EMPTY, id > 1);
        }
        for (int i = 0; i < 6; i++) {
            int id = (i * 5 + 3) % 6;
            Checks.due("withdraw(" + id + ")", r.withdraw(id), true);
        }
        answersNothing("when all are withdrawn", r, 3);
        Checks.due("grant begins at 0 again", r.grant(0, 0, 0, true), 0);
    }

    private static void withdrawWithinARow() {
        for (int gone = 0; gone < 5; gone++) {
            NameResolver r = new NameResolver(6);
            for (int k = 0; k < 5; k++) {
                r.grant(k, k + 1, Checks.EMPTY, true);
            }
            r.withdraw(gone);
            for (int k = 0; k < 5; k++) {
                int want = k > gone ? 5 - k : NameResolver.NONE;
                Checks.due("trustCost(" + k + ", 5) without " + gone, r.trustCost(k, 5), want);
            }
            Checks.due("trusted(0) without " + gone, r.trusted(0), (2 << gone) - 2);
        }
    }

    private static void withdrawTwice() {
        NameResolver r = Checks.full();
        for (int id = 0; id < 6; id++) {
            Checks.due("withdraw(" + id + ")", r.withdraw(id), true);
            Checks.due("withdraw(" + id + ") again", r.withdraw(id), false);
            Checks.due("grants()", r.grants(), ALL_GRANTS & -1 << id + 1);
        }
    }

    private static void eachCertificateAlone() {
        for (int alone = 0; alone < 10; alone++) {
            NameResolver r = Checks.full();
            for (int id = 0; id < 10; id++) {
                if (id != alone) {
                    r.revoke(id);
                }
            }
            Checks.due("certificates() of " + alone + " alone", r.certificates(), 1 << alone);
        }
    }

    private static void eachGrantAlone() {
        for (int alone = 0; alone < 6; alone++) {
            NameResolver r = Checks.full();
            for (int id = 0; id < 6; id++) {
                if (id != alone) {
                    r.withdraw(id);
                }
            }
            Checks.due("grants() of " + alone + " alone", r.grants(), 1 << alone);
        }
    }

    private static void allAreMembers() {
        for (int count : Checks.COUNTS_OF_PRINCIPALS) {
            NameResolver r = new NameResolver(count);
            for (int p = 0; p < count; p++) {
                r.certify(0, 1, p, Checks.EMPTY);
                Checks.due("members(0, 1) up to " + p, r.members(0, 1), (2 << p) - 1);
            }
            r.certify(count - 1, 2, 0, Checks.two(1, 1));
            r.certify(count - 1, 2, 0, Checks.one(1));
            Checks.due("members(last, 2) of " + count, r.members(count - 1, 2), (1 << count) - 1);
        }
    }

    private static void witnessAtTheEnds() {
        for (int id = 0; id < 10; id++) {
            NameResolver r = new NameResolver(6);
            for (int i = 0; i < 10; i++) {
                r.certify(3, 1, i == id ? 5 : 4, Checks.EMPTY);
            }
            Checks.due("witness(3, 1, 5) by " + id + " alone", r.witness(3, 1, 5), id);
            Checks.due("witness(3, 1, 4) by all but " + id, r.witness(3, 1, 4), id == 0 ? 1 : 0);
        }
    }

    private static void witnessAmongTen() {
        NameResolver r = new NameResolver(6);
        for (int i = 0; i < 10; i++) {
            r.certify(3, 1, 5, Checks.EMPTY);
        }
        for (int id = 0; id < 10; id++) {
            Checks.due("witness(3, 1, 5) from " + id + " on", r.witness(3, 1, 5), id);
            r.revoke(id);
        }
        Checks.due("witness(3, 1, 5) of none", r.witness(3, 1, 5), NameResolver.NONE);
        r.certify(3, 1, 5, Checks.EMPTY);
        Checks.due("witness(3, 1, 5) by 0 anew", r.witness(3, 1, 5), 0);
    }

    private static void mattersAmongTen() {
        NameResolver r = new NameResolver(6);
        for (int i = 0; i < 10; i++) {
            r.certify(3, 1, 5, Checks.EMPTY);
        }
        for (int id = 0; id < 9; id++) {
            Checks.due("matters(" + id + ") with others alike", r.matters(id), false);
            Checks.due("matters(9) with others alike", r.matters(9), false);
            r.revoke(id);
        }
        Checks.due("matters(9) alone", r.matters(9), true);
    }

    private static void allAreTrusted() {
        for (int count : Checks.COUNTS_OF_PRINCIPALS) {
            NameResolver r = new NameResolver(count);
            for (int p = 0; p < count; p++) {
                r.grant(count - 1, p, Checks.EMPTY, false);
                Checks.due("trusted(last) up to " + p, r.trusted(count - 1), (2 << p) - 1);
            }
        }
    }

    private static void clearOfNothing() {
        NameResolver r = new NameResolver(6);
        r.clear();
        answersNothing("of a new object that is cleared", r, 6);
        r.clear();
        Checks.due("certify after it", r.certify(0, 0, 0, 0), 0);
        Checks.due("grant after it", r.grant(0, 0, 0, true), 0);
    }

    private static void clearOfAll() {
        NameResolver r = Checks.full();
        r.clear();
        answersNothing("when all is cleared", r, 6);
        for (int id = 0; id < 10; id++) {
            Checks.due("revoke(" + id + ") of what is cleared", r.revoke(id), false);
        }
        for (int id = 0; id < 6; id++) {
            Checks.due("withdraw(" + id + ") of what is cleared", r.withdraw(id), false);
        }
    }

    private static void clearOfOneKind() {
        NameResolver certificates = Checks.with(6, Checks.cert(5, 2, 5, Checks.EMPTY));
        certificates.clear();
        answersNothing("when certificates are cleared", certificates, 6);
        NameResolver grants = new NameResolver(6);
        grants.grant(5, 5, Checks.EMPTY, true);
        grants.clear();
        answersNothing("when grants are cleared", grants, 6);
    }

    private static void numbersAfterClear() {
        NameResolver r = Checks.withGaps();
        for (int round = 0; round < 3; round++) {
            r.clear();
            for (int id = 0; id < 10; id++) {
                Checks.due("certify after clear", r.certify(0, 0, 0, 0), id);
            }
            Checks.due("the eleventh certify after clear", r.certify(0, 0, 0, 0), NameResolver.FULL);
            for (int id = 0; id < 6; id++) {
                Checks.due("grant after clear", r.grant(0, 0, 0, true), id);
            }
            Checks.due("the seventh grant after clear", r.grant(0, 0, 0, true), NameResolver.FULL);
        }
    }

    private static void nothingComesBackAfterClear() {
        NameResolver once = Checks.full();
        once.clear();
        once.certify(2, 2, 2, Checks.one(0));
        once.grant(2, 2, Checks.one(0), true);
        Checks.due("certificates()", once.certificates(), 1);
        Checks.due("grants()", once.grants(), 1);
        for (int k = 0; k < 6; k++) {
            Checks.due("trusted(" + k + ")", once.trusted(k), 0);
            for (int n = 0; n < 3; n++) {
                Checks.due("members(" + k + ", " + n + ")", once.members(k, n), 0);
            }
        }
        Checks.due("all answers are those of an object that was never full", Checks.sameAnswers(
                () -> Checks.with(6, Checks.cert(1, 1, 1, 0)), CapacityTest::fullThenOne), true);
    }

    private static NameResolver fullThenOne() {
        NameResolver r = Checks.full();
        r.clear();
        r.certify(1, 1, 1, 0);
        return r;
    }
}
