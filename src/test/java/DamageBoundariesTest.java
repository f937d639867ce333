/** The boundary cases of promises 20 to 22: damage, crashes, faults. */
public final class DamageBoundariesTest {
    private static final int[] STEPS = {Volumes.MIN, Volumes.MIN + 1, -9, -1, 0, 1, 2, 3, 4, 5, 6, 7, 8, 9, 10, 11, 12,
        13, 17, 18, 96, 108, 216, 217, Volumes.MAX - 1, Volumes.MAX};
    private static final Sentences S = new Sentences();

    public static void main(String[] args) {
        damage();
        crash();
        faults();
        S.end();
    }

    // Promise 20

    private static void damage() {
        S.test(20, "which one depends on place (any int)", "every place of some 2000, and far ones", () -> {
            for (int i = 0; i < 2000; i++) {
                isSeen(i % 12, i - 1000);
            }
            for (int bit = 0; bit < 32; bit++) {
                isSeen(bit % 12, 1 << bit);
                isSeen(bit % 12, (1 << bit) - 1);
                isSeen(bit % 12, -(1 << bit) - 1);
            }
            isSeen(0, Volumes.MIN);
            isSeen(11, Volumes.MAX);
        });
        S.test(20, "The sector is damaged then", "it alone", () -> {
            for (int damaged = 0; damaged < 12; damaged++) {
                SealedVolume v = Volumes.filled();
                v.damage(damaged, 7 * damaged);
                for (int sector = 0; sector < 12; sector++) {
                    S.due("check(" + sector + ")", v.check(sector), sector == damaged ? -10 : 0);
                    int due = sector == damaged ? 0 : Volumes.valueAt(sector, 0);
                    S.due("read(" + sector + ", 0)", v.read(sector, 0), due);
                }
            }
        });
        S.test(20, "sector is not good: BAD", "too small, too large", () -> {
            SealedVolume v = Volumes.filled();
            int before = v.digest();
            for (int sector : Volumes.NOT_SECTORS) {
                S.due("damage(" + sector + ")", v.damage(sector, 0), -1);
                S.due("damage(" + sector + ") at MIN", v.damage(sector, Volumes.MIN), -1);
            }
            S.due("digest", v.digest(), before);
        });
        S.test(20, "there is no volume: NONE", "each sector, and nothing is damaged in the first volume", () -> {
            SealedVolume v = Volumes.none();
            for (int sector = 0; sector < 12; sector++) {
                S.due("damage(" + sector + ")", v.damage(sector, 0), -2);
            }
            v.format(1);
            v.unlock(1);
            for (int sector = 0; sector < 12; sector++) {
                S.due("check(" + sector + ")", v.check(sector), 0);
            }
        });
        S.test(20, "the sector is damaged: BUSY", "the same place would mend it, another would not", () -> {
            for (int sector = 0; sector < 12; sector++) {
                SealedVolume v = Volumes.filled();
                v.damage(sector, 40);
                S.due("the same place", v.damage(sector, 40), -5);
                S.due("another", v.damage(sector, 41), -5);
                S.due("check", v.check(sector), -10);
                v.lock();
                S.due("the same place, locked", v.damage(sector, 40), -5);
                v.unlock(Volumes.OWN);
                S.due("check", v.check(sector), -10);
            }
        });
        S.test(20, "the sector is damaged: BUSY", "not one that was filled or formatted since", () -> {
            SealedVolume v = Volumes.open();
            v.damage(0, 1);
            v.fill(0, 0, 0);
            S.due("filled", v.damage(0, 1), 0);
            v.format(Volumes.OWN);
            S.due("formatted", v.damage(0, 1), 0);
        });
        S.test(20, "Else answers 0", "all twelve, each number of sectors left to renew", () -> {
            for (int left = 0; left <= 12; left++) {
                SealedVolume v = Volumes.toRenew(left);
                for (int sector = 0; sector < 12; sector++) {
                    S.due("damage(" + sector + ")", v.damage(sector, left), 0);
                    S.due("check(" + sector + ")", v.check(sector), -10);
                }
            }
        });
        S.test(20, "(The volume may be locked.)", "it stays so, and the damage is seen when it is open", () -> {
            for (int sector = 0; sector < 12; sector++) {
                SealedVolume v = Volumes.locked();
                S.due("damage", v.damage(sector, 0), 0);
                S.due("state", v.state(), 1);
                S.due("unlock", v.unlock(Volumes.OWN), 0);
                S.due("check", v.check(sector), -10);
            }
        });
    }

    private static void isSeen(int sector, int place) {
        SealedVolume v = Volumes.filled();
        S.due("damage(" + sector + ", " + place + ")", v.damage(sector, place), 0);
        S.due("check after place " + place, v.check(sector), -10);
        S.due("the sector after it", v.check((sector + 1) % 12), 0);
        S.due("the sector before it", v.check((sector + 11) % 12), 0);
    }

    // Promise 21

    private static void crash() {
        S.test(21, "A crash: the volume is locked", "any steps, open and locked, each number of sectors left", () -> {
            for (int left = 0; left <= 12; left++) {
                for (int steps : STEPS) {
                    SealedVolume v = Volumes.toRenew(left);
                    v.crash(steps);
                    S.due("state", v.state(), 1);
                    v.crash(steps);
                    S.due("state after a second one", v.state(), 1);
                }
            }
        });
        S.test(21, "after steps (any int) writes", "all cells hold what they held", () -> {
            for (int left = 1; left <= 12; left++) {
                for (int steps : STEPS) {
                    SealedVolume v = Volumes.toRenew(left);
                    v.crash(steps);
                    v.unlock(Volumes.OWN);
                    holdsAll(v, "crash(" + steps + "), " + left + " left");
                    v.renew(left);
                    holdsAll(v, "crash(" + steps + "), " + left + " left, renewed since");
                }
            }
        });
        S.test(21, "after steps (any int) writes", "the next sector is damaged, or is not", () -> {
            for (int left = 1; left <= 12; left++) {
                for (int steps : STEPS) {
                    damagedNext(left, steps);
                }
            }
        });
        S.test(21, "after steps (any int) writes", "one crash after the other in the same sector", () -> {
            SealedVolume v = Volumes.toRenew(7);
            for (int steps : STEPS) {
                S.due("crash(" + steps + ")", v.crash(steps), 7);
                v.unlock(Volumes.OWN);
                v.write(5, 0, steps);
                S.due("what is written then", v.read(5, 0), steps);
                S.due("the cell beside it", v.read(5, 1), Volumes.valueAt(5, 1));
            }
            v.renew(1);
            S.due("renewed", v.read(5, 0), Volumes.MAX);
        });
        S.test(21, "the sector is not renewed then", "it comes next again", () -> {
            for (int left = 1; left <= 12; left++) {
                for (int steps : STEPS) {
                    SealedVolume v = Volumes.toRenew(left);
                    v.crash(steps);
                    S.due("toRenew", v.toRenew(), left);
                    v.unlock(Volumes.OWN);
                    S.due("renew", v.renew(1), left - 1);
                }
            }
        });
        S.test(21, "If it was open and being renewed", "locked: nothing is being renewed", () -> {
            for (int left = 1; left <= 12; left++) {
                SealedVolume v = Volumes.toRenew(left);
                v.lock();
                S.due("crash", v.crash(3), left);
                v.unlock(Volumes.OWN);
                holdsAll(v, left + " left");
            }
        });
        S.test(21, "If it was open and being renewed", "open, not being renewed: none begins", () -> {
            for (int steps : STEPS) {
                SealedVolume v = Volumes.filled();
                v.saveSlots();
                S.due("crash(" + steps + ")", v.crash(steps), 0);
                S.due("toRenew", v.toRenew(), 0);
                S.due("the copy is of use", v.restoreSlots(), 1);
                v.unlock(Volumes.OWN);
                holdsAll(v, "crash(" + steps + ")");
            }
        });
        S.test(21, "There is no volume: NONE", "any steps", () -> {
            for (int steps : STEPS) {
                SealedVolume v = Volumes.none();
                S.due("crash(" + steps + ")", v.crash(steps), -2);
                S.due("state", v.state(), 0);
            }
        });
        S.test(21, "Else answers how many sectors are still to be renewed", "every number, any steps", () -> {
            for (int left = 0; left <= 12; left++) {
                for (int steps : STEPS) {
                    SealedVolume v = Volumes.toRenew(left);
                    S.due("open, crash(" + steps + ")", v.crash(steps), left);
                    S.due("locked, crash(" + steps + ")", v.crash(steps), left);
                }
            }
        });
    }

    private static void holdsAll(SealedVolume v, String when) {
        for (int i = 0; i < 96; i++) {
            S.due(when + ", cell " + i, v.read(i / 8, i % 8), Volumes.valueAt(i / 8, i % 8));
        }
    }

    private static void damagedNext(int left, int steps) {
        int next = 12 - left;
        SealedVolume damaged = Volumes.toRenew(left);
        damaged.damage(next, 100);
        damaged.crash(steps);
        damaged.unlock(Volumes.OWN);
        SealedVolume sound = Volumes.toRenew(left);
        sound.crash(steps);
        sound.unlock(Volumes.OWN);
        for (int sector = 0; sector < 12; sector++) {
            S.due("crash(" + steps + "), damaged", damaged.check(sector), sector == next ? -10 : 0);
            S.due("crash(" + steps + "), sound", sound.check(sector), 0);
        }
        damaged.renew(1);
        S.due("damaged, renewed", damaged.check(next), -10);
    }

    // Promise 22

    private static void faults() {
        S.test(22, "always 0", "no volume", () -> S.due("faults", Volumes.none().faults(), 0));
        S.test(22, "always 0", "every set of slots, open and locked", () -> {
            for (int bits = 1; bits < 16; bits++) {
                SealedVolume v = Volumes.withSlots(bits);
                S.due("open", v.faults(), 0);
                v.lock();
                S.due("locked", v.faults(), 0);
            }
        });
        S.test(22, "always 0", "every sector damaged", () -> {
            SealedVolume v = Volumes.locked();
            Volumes.damageAll(v);
            S.due("locked", v.faults(), 0);
            v.unlock(Volumes.OWN);
            S.due("open", v.faults(), 0);
        });
        S.test(22, "always 0", "a crash after any steps, each number of sectors left", () -> {
            for (int left = 0; left <= 12; left++) {
                for (int steps : STEPS) {
                    SealedVolume v = Volumes.toRenew(left);
                    S.due("before", v.faults(), 0);
                    v.crash(steps);
                    S.due("after", v.faults(), 0);
                }
            }
        });
        S.test(22, "always 0", "a good copy and a stale one, a wrong passphrase, a new volume", () -> {
            SealedVolume v = Volumes.withSlots(15);
            v.saveSlots();
            S.due("good", v.faults(), 0);
            v.renew(6);
            S.due("stale", v.faults(), 0);
            v.lock();
            v.unlock(1);
            S.due("wrong passphrase", v.faults(), 0);
            v.format(1);
            S.due("new volume", v.faults(), 0);
        });
    }
}
