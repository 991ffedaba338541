import java.util.Arrays;
import java.util.function.Consumer;
import java.util.function.Supplier;

/**
 * A call that is refused changes nothing, and BAD is tested before FULL. What an object answers after a
 * refused call is held, answer by answer, against one made alike that had no such call.
 */
public final class RefusalTest {
    public static void main(String[] args) {
        Checks.sentence("16: certify tests BAD before FULL", RefusalTest::certifyBadBeforeFull);
        Checks.sentence("16: grant tests BAD before FULL", RefusalTest::grantBadBeforeFull);
        Checks.sentence("16: certify that answers BAD changes nothing", RefusalTest::badCertify);
        Checks.sentence("16: certify that answers FULL changes nothing", RefusalTest::fullCertify);
        Checks.sentence("16: grant that answers BAD changes nothing", RefusalTest::badGrant);
        Checks.sentence("16: grant that answers FULL changes nothing", RefusalTest::fullGrant);
        Checks.sentence("3: revoke that answers false changes nothing", RefusalTest::falseRevoke);
        Checks.sentence("5: withdraw that answers false changes nothing", RefusalTest::falseWithdraw);
        Checks.sentence("16: a question that answers NONE changes nothing", RefusalTest::noneQuestions);
        Checks.sentence("12: matters takes nothing back", RefusalTest::mattersOnlyAsks);
        Checks.sentence("6 to 14: a question that is answered changes nothing", RefusalTest::answeredQuestions);
        Checks.end();
    }

    private static NameResolver empty() {
        return new NameResolver(6);
    }

    private static NameResolver small() {
        NameResolver r = Checks.with(1, Checks.cert(0, 0, 0, Checks.EMPTY), Checks.cert(0, 2, 0, Checks.two(0, 0)));
        r.grant(0, 0, Checks.one(2), true);
        return r;
    }

    private static void changesNothing(String what, Supplier<NameResolver> made, Consumer<NameResolver> call) {
        int[] before = Checks.allAnswers(made);
        int[] after = Checks.allAnswers(() -> {
            NameResolver r = made.get();
            call.accept(r);
            return r;
        });
        Checks.due("the first answer changed by " + what, Arrays.mismatch(before, after), -1);
    }

    private static void changesNothingAnywhere(String what, Consumer<NameResolver> call) {
        changesNothing(what + " of an empty object", RefusalTest::empty, call);
        changesNothing(what + " of an object of one principal", RefusalTest::small, call);
        changesNothing(what + " of an object with gaps", Checks::withGaps, call);
        changesNothing(what + " of a full object", Checks::full, call);
    }

    private static void certifyBadBeforeFull() {
        NameResolver r = Checks.full();
        for (int wrong : Checks.outside(6)) {
            Checks.due("certify of k " + wrong, r.certify(wrong, 0, 0, 0), NameResolver.BAD);
            Checks.due("certify of p " + wrong, r.certify(0, 0, wrong, 0), NameResolver.BAD);
        }
        for (int wrong : Checks.outside(3)) {
            Checks.due("certify of n " + wrong, r.certify(0, wrong, 0, 0), NameResolver.BAD);
        }
        for (int wrong : Checks.outside(13)) {
            Checks.due("certify of path " + wrong, r.certify(0, 0, 0, wrong), NameResolver.BAD);
        }
        for (int k : Checks.insideEdges(6)) {
            for (int n : Checks.insideEdges(3)) {
                for (int p : Checks.insideEdges(6)) {
                    Checks.due("certify of nothing wrong", r.certify(k, n, p, 0), NameResolver.FULL);
                    Checks.due("certify of nothing wrong", r.certify(k, n, p, 12), NameResolver.FULL);
                }
            }
        }
    }

    private static void grantBadBeforeFull() {
        NameResolver r = Checks.full();
        for (int wrong : Checks.outside(6)) {
            Checks.due("grant of k " + wrong, r.grant(wrong, 0, 0, true), NameResolver.BAD);
            Checks.due("grant of p " + wrong, r.grant(0, wrong, 0, false), NameResolver.BAD);
        }
        for (int wrong : Checks.outside(13)) {
            Checks.due("grant of path " + wrong, r.grant(0, 0, wrong, true), NameResolver.BAD);
        }
        for (int k : Checks.insideEdges(6)) {
            for (int p : Checks.insideEdges(6)) {
                Checks.due("grant of nothing wrong", r.grant(k, p, 0, true), NameResolver.FULL);
                Checks.due("grant of nothing wrong", r.grant(k, p, 12, false), NameResolver.FULL);
            }
        }
    }

    private static void badCertify() {
        for (int wrong : Checks.outside(6)) {
            changesNothingAnywhere("certify of k " + wrong, r -> r.certify(wrong, 0, 0, 0));
            changesNothingAnywhere("certify of p " + wrong, r -> r.certify(0, 0, wrong, 0));
        }
        for (int wrong : Checks.outside(3)) {
            changesNothingAnywhere("certify of n " + wrong, r -> r.certify(0, wrong, 0, 0));
        }
        for (int wrong : Checks.outside(13)) {
            changesNothingAnywhere("certify of path " + wrong, r -> r.certify(0, 0, 0, wrong));
        }
    }

    private static void fullCertify() {
        for (int k : Checks.insideEdges(6)) {
            for (int n = 0; n < 3; n++) {
                for (int p = 0; p < 6; p++) {
                    int name = n;
                    int principal = p;
                    changesNothing("certify when full", Checks::full, r -> r.certify(k, name, principal, 0));
                    changesNothing("certify when full", Checks::full, r -> r.certify(k, name, principal, 2));
                }
            }
        }
    }

    private static void badGrant() {
        for (int wrong : Checks.outside(6)) {
            changesNothingAnywhere("grant of k " + wrong, r -> r.grant(wrong, 0, 0, true));
            changesNothingAnywhere("grant of p " + wrong, r -> r.grant(0, wrong, 0, true));
        }
        for (int wrong : Checks.outside(13)) {
            changesNothingAnywhere("grant of path " + wrong, r -> r.grant(0, 0, wrong, true));
        }
    }

    private static void fullGrant() {
        for (int k = 0; k < 6; k++) {
            for (int p = 0; p < 6; p++) {
                int giver = k;
                int principal = p;
                changesNothing("open grant when full", Checks::full, r -> r.grant(giver, principal, 0, true));
                changesNothing("grant when full", Checks::full, r -> r.grant(giver, principal, 0, false));
            }
        }
    }

    private static void falseRevoke() {
        for (int none : Checks.outside(10)) {
            changesNothingAnywhere("revoke(" + none + ")", r -> r.revoke(none));
        }
        changesNothing("revoke(3) of a gap", Checks::withGaps, r -> r.revoke(3));
        changesNothing("revoke(8) of a gap", Checks::withGaps, r -> r.revoke(8));
        for (int id = 0; id < 10; id++) {
            int none = id;
            changesNothing("revoke(" + none + ") of nothing", RefusalTest::empty, r -> r.revoke(none));
        }
    }

    private static void falseWithdraw() {
        for (int none : Checks.outside(6)) {
            changesNothingAnywhere("withdraw(" + none + ")", r -> r.withdraw(none));
        }
        changesNothing("withdraw(1) of a gap", Checks::withGaps, r -> r.withdraw(1));
        changesNothing("withdraw(4) of a gap", Checks::withGaps, r -> r.withdraw(4));
        for (int id = 0; id < 6; id++) {
            int none = id;
            changesNothing("withdraw(" + none + ") of nothing", RefusalTest::empty, r -> r.withdraw(none));
        }
    }

    private static void noneQuestions() {
        for (int wrong : Checks.outside(6)) {
            changesNothingAnywhere("questions of " + wrong, r -> {
                r.members(wrong, 0);
                r.cost(wrong, 0, 0);
                r.cost(0, 0, wrong);
                r.denotes(wrong, 0, 0);
                r.denotes(0, 0, wrong);
                r.witness(wrong, 0, 0);
                r.witness(0, 0, wrong);
                r.trusted(wrong);
                r.trustCost(wrong, 0);
                r.trustCost(0, wrong);
            });
        }
        for (int wrong : Checks.outside(13)) {
            changesNothingAnywhere("questions of name or path " + wrong, r -> {
                r.members(0, wrong);
                r.cost(0, wrong, 0);
                r.witness(0, wrong, 0);
                r.denotes(0, wrong, 0);
                r.matters(wrong);
            });
        }
    }

    private static void mattersOnlyAsks() {
        for (int id = 0; id < 10; id++) {
            int asked = id;
            changesNothingAnywhere("matters(" + asked + ")", r -> r.matters(asked));
        }
    }

    private static void answeredQuestions() {
        for (int k = 0; k < 6; k++) {
            for (int x = 0; x < 6; x++) {
                int asked = k;
                int member = x;
                changesNothing("questions of " + k + " and " + x, Checks::full, r -> {
                    r.members(asked, 0);
                    r.cost(asked, 2, member);
                    r.witness(asked, 2, member);
                    r.denotes(asked, 4, member);
                    r.trusted(asked);
                    r.trustCost(asked, member);
                    r.certificates();
                    r.grants();
                });
            }
        }
    }
}
