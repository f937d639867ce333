/** The boundary cases of promises 16 and 17: renewing. */
public final class RenewBoundariesTest {
    private static final String NOT_OPEN = "The volume is not open (or not there): LOCKED";
    private static final Sentences S = new Sentences();

    public static void main(String[] args) {
        renew();
        toRenew();
        S.end();
    }

    // Promise 16

    private static void renew() {
        S.test(16, "if the volume is not being renewed, this begins, and all twelve are still to be renewed",
            "with any steps", () -> {
                for (int steps : new int[] {Volumes.MIN, -1, 0, 1, 11}) {
                    S.due("renew(" + steps + ")", Volumes.open().renew(steps), 12 - Math.max(steps, 0));
                }
            });
        S.test(16, "if the volume is not being renewed, this begins, and all twelve are still to be renewed",
            "again when one has ended, not before", () -> {
                SealedVolume v = Volumes.open();
                v.renew(11);
                S.due("it goes on", v.renew(0), 1);
                S.due("it ends", v.renew(1), 0);
                S.due("one begins", v.renew(0), 12);
                S.due("it goes on", v.renew(0), 12);
            });
        S.test(16, "then up to steps of them are", "every number left, every number of steps", () -> {
            for (int left = 1; left <= 12; left++) {
                for (int steps = 1; steps <= left; steps++) {
                    SealedVolume v = Volumes.toRenew(left);
                    S.due("renew(" + steps + ") of " + left, v.renew(steps), left - steps);
                }
            }
        });
        S.test(16, "then up to steps of them are", "more steps than are left begin no second one", () -> {
            for (int left = 0; left <= 12; left++) {
                for (int steps : new int[] {13, 24, 25, Volumes.MAX - 1, Volumes.MAX}) {
                    SealedVolume v = Volumes.toRenew(left);
                    S.due("renew(" + steps + ") of " + left, v.renew(steps), 0);
                    S.due("toRenew", v.toRenew(), 0);
                }
            }
        });
        S.test(16, "(none if steps is below 1)", "every number left", () -> {
            for (int left = 1; left <= 12; left++) {
                SealedVolume v = Volumes.toRenew(left);
                for (int steps : new int[] {0, -1, -2, -12, -13, Volumes.MIN + 1, Volumes.MIN}) {
                    S.due("renew(" + steps + ") of " + left, v.renew(steps), left);
                    S.due("toRenew", v.toRenew(), left);
                }
            }
        });
        S.test(16, "When none is left, the volume is no longer being renewed", "a copy is of use again", () -> {
            for (int left = 1; left <= 12; left++) {
                SealedVolume v = Volumes.toRenew(left);
                v.renew(left - 1);
                S.due("toRenew, one is left", v.toRenew(), 1);
                v.renew(1);
                S.due("toRenew, none is left", v.toRenew(), 0);
                v.saveSlots();
                S.due("restoreSlots", v.restoreSlots(), 1);
                S.due("crash", v.crash(1), 0);
            }
        });
        S.test(16, NOT_OPEN, "locked", () -> {
            SealedVolume v = Volumes.locked();
            v.saveSlots();
            for (int steps : new int[] {Volumes.MIN, 0, 1, 12, Volumes.MAX}) {
                S.due("renew(" + steps + ")", v.renew(steps), -3);
            }
            S.due("toRenew", v.toRenew(), 0);
            S.due("nothing has begun", v.restoreSlots(), 1);
        });
        S.test(16, NOT_OPEN, "locked while being renewed", () -> {
            for (int left = 1; left <= 12; left++) {
                SealedVolume v = Volumes.toRenew(left);
                v.lock();
                S.due("renew", v.renew(1), -3);
                S.due("toRenew", v.toRenew(), left);
                v.unlock(Volumes.OWN);
                S.due("it goes on", v.renew(1), left - 1);
            }
        });
        S.test(16, NOT_OPEN, "not there", () -> S.due("renew", Volumes.none().renew(1), -3));
        S.test(16, "Else answers how many are left", "one after the other", () -> {
            SealedVolume v = Volumes.open();
            for (int round = 0; round < 3; round++) {
                for (int left = 11; left >= 0; left--) {
                    S.due("renew(1)", v.renew(1), left);
                }
            }
        });
        S.test(16, "Renews sectors", "what is written, filled or damaged on the way stays",
            RenewBoundariesTest::onTheWay);
    }

    /** The sector that comes next, and the one renewed last, are changed between two steps. */
    private static void onTheWay() {
        for (int left = 1; left <= 12; left++) {
            SealedVolume v = Volumes.toRenew(left);
            int next = 12 - left;
            int last = (next + 11) % 12;
            v.write(next, 7, 70);
            v.damage(last, 9);
            v.renew(1);
            S.due("the next one, written", v.read(next, 7), 70);
            S.due("its other cells", v.read(next, 6), Volumes.valueAt(next, 6));
            S.due("the last one, damaged", v.check(last), -10);
            v.fill(last, 4, 1);
            v.damage(next, 9);
            v.renew(12);
            S.due("the last one, filled", v.read(last, 7), 11);
            S.due("the next one, damaged", v.check(next), -10);
        }
    }

    // Promise 17

    private static void toRenew() {
        S.test(17, "How many sectors are still to be renewed", "every number, open and locked", () -> {
            for (int left = 1; left <= 12; left++) {
                SealedVolume v = Volumes.toRenew(left);
                S.due("open", v.toRenew(), left);
                v.lock();
                S.due("locked", v.toRenew(), left);
            }
        });
        S.test(17, "0 if the volume is not being renewed", "never, and no longer", () -> {
            SealedVolume v = Volumes.locked();
            S.due("never, locked", v.toRenew(), 0);
            v.unlock(Volumes.OWN);
            S.due("never, open", v.toRenew(), 0);
            v.renew(12);
            S.due("no longer", v.toRenew(), 0);
            v.renew(3);
            v.format(1);
            S.due("a new volume", v.toRenew(), 0);
        });
        S.test(17, "or there is none", "a new object", () -> S.due("toRenew", Volumes.none().toRenew(), 0));
    }
}
