/** The boundary cases of promises 1 to 5: volumes, locked and open. */
public final class VolumeBoundariesTest {
    private static final Sentences S = new Sentences();

    public static void main(String[] args) {
        S.test(1, "As said above.", "no volume", VolumeBoundariesTest::newObjectHasNoVolume);
        S.test(1, "As said above.", "no copy, so that none is there after format", () -> {
            SealedVolume v = Volumes.none();
            v.format(0);
            S.due("restoreSlots", v.restoreSlots(), -2);
        });
        S.test(1, "As said above.", "one object's volume is not another's", () -> {
            SealedVolume first = Volumes.none();
            SealedVolume second = Volumes.none();
            first.format(1);
            S.due("state", second.state(), 0);
            S.due("slotOf", second.slotOf(1), -2);
        });
        format();
        unlock();
        lock();
        S.test(5, "0 if there is no volume", "a new object", () -> S.due("state", Volumes.none().state(), 0));
        S.test(5, "1 if it is locked", "every way of locking", VolumeBoundariesTest::stateOfLocked);
        S.test(5, "2 if it is open", "also being renewed and damaged", VolumeBoundariesTest::stateOfOpen);
        S.end();
    }

    private static void newObjectHasNoVolume() {
        SealedVolume v = Volumes.none();
        S.due("state", v.state(), 0);
        S.due("slots", v.slots(), 0);
        S.due("toRenew", v.toRenew(), 0);
        S.due("lock", v.lock(), -2);
        S.due("unlock", v.unlock(0), -2);
        S.due("slotOf", v.slotOf(0), -2);
        S.due("saveSlots", v.saveSlots(), -2);
        S.due("restoreSlots", v.restoreSlots(), -2);
        S.due("damage", v.damage(0, 0), -2);
        S.due("crash", v.crash(0), -2);
        S.due("renew", v.renew(1), -3);
        S.due("faults", v.faults(), 0);
        S.due("digest", v.digest(), 0);
    }

    // Promise 2

    /** As much as a volume can have: open, four slots, all cells used, all sectors damaged, being renewed, a copy. */
    private static SealedVolume laden() {
        SealedVolume v = Volumes.filled();
        v.addKey(8);
        v.addKey(9);
        v.addKey(10);
        v.saveSlots();
        Volumes.damageAll(v);
        v.renew(5);
        return v;
    }

    private static void format() {
        S.test(2, "There is a new volume in place of any that there was: locked", "none, a locked one, an open one",
            VolumeBoundariesTest::formatLocks);
        S.test(2, "all cells 0", "where all held something", VolumeBoundariesTest::formatEmptiesCells);
        S.test(2, "all cells 0", "in a first volume", () -> cellsAreNull(Volumes.open()));
        S.test(2, "all sectors sound", "where all were damaged", () -> {
            SealedVolume v = laden();
            v.format(1);
            v.unlock(1);
            sectorsAreSound(v);
        });
        S.test(2, "all sectors sound", "in a first volume", () -> sectorsAreSound(Volumes.open()));
        S.test(2, "not being renewed", "where each number of sectors was left",
            VolumeBoundariesTest::formatEndsRenewing);
        S.test(2, "the passphrase in slot 0", "any int", VolumeBoundariesTest::formatPutsPassphrase);
        S.test(2, "the passphrase in slot 0", "one that another slot had", () -> {
            SealedVolume v = laden();
            v.format(10);
            S.due("slotOf", v.slotOf(10), 0);
            S.due("unlock", v.unlock(10), 0);
        });
        S.test(2, "the other slots empty", "where all were taken", VolumeBoundariesTest::formatEmptiesSlots);
        S.test(2, "A copy that there was is of no use any more (as if there were none)",
            "a good one, a stale one, the same passphrase", VolumeBoundariesTest::formatDropsCopy);
        S.test(2, "Answers 0", "in every state", () -> {
            S.due("no volume", Volumes.none().format(1), 0);
            S.due("locked", Volumes.locked().format(1), 0);
            S.due("open", Volumes.open().format(1), 0);
            S.due("laden", laden().format(Volumes.OWN), 0);
        });
    }

    private static void formatLocks() {
        SealedVolume[] before = {Volumes.none(), Volumes.locked(), Volumes.open(), laden()};
        for (int i = 0; i < before.length; i++) {
            before[i].format(5);
            S.due("state, " + i, before[i].state(), 1);
            S.due("check, " + i, before[i].check(0), -3);
        }
    }

    private static void formatEmptiesCells() {
        SealedVolume v = laden();
        v.format(Volumes.OWN);
        v.unlock(Volumes.OWN);
        cellsAreNull(v);
    }

    private static void cellsAreNull(SealedVolume v) {
        for (int i = 0; i < 96; i++) {
            S.due("cell " + i % 8 + " of " + i / 8, v.read(i / 8, i % 8), 0);
        }
        S.due("digest", v.digest(), 0);
    }

    private static void sectorsAreSound(SealedVolume v) {
        for (int sector = 0; sector < 12; sector++) {
            S.due("check of " + sector, v.check(sector), 0);
            S.due("damage of " + sector, v.damage(sector, 0), 0);
        }
    }

    private static void formatEndsRenewing() {
        for (int left = 0; left <= 12; left++) {
            SealedVolume v = Volumes.toRenew(left);
            v.format(1);
            S.due("toRenew, " + left + " were left", v.toRenew(), 0);
            v.unlock(1);
            S.due("a renewing begins, " + left + " were left", v.renew(1), 11);
        }
    }

    private static void formatPutsPassphrase() {
        for (int passphrase : Volumes.INTS) {
            SealedVolume v = Volumes.none();
            v.format(passphrase);
            S.due("slotOf(" + passphrase + ")", v.slotOf(passphrase), 0);
            S.due("unlock(" + passphrase + ")", v.unlock(passphrase), 0);
        }
    }

    private static void formatEmptiesSlots() {
        for (int bits = 1; bits < 16; bits++) {
            SealedVolume v = Volumes.withSlots(bits);
            v.format(1);
            S.due("slots, before " + bits, v.slots(), 1);
            for (int slot = 0; slot < 4; slot++) {
                S.due("slotOf, before " + bits, v.slotOf(Volumes.passphraseOf(slot)), -4);
                S.due("unlock, before " + bits, v.unlock(Volumes.passphraseOf(slot)), -4);
            }
            v.unlock(1);
            S.due("slot 1 is empty, before " + bits, v.addKey(2), 1);
        }
    }

    private static void formatDropsCopy() {
        SealedVolume good = Volumes.locked();
        good.saveSlots();
        good.format(Volumes.OWN);
        S.due("a good one", good.restoreSlots(), -2);
        SealedVolume stale = laden();
        stale.format(Volumes.OWN);
        S.due("a stale one", stale.restoreSlots(), -2);
        stale.unlock(Volumes.OWN);
        stale.renew(1);
        S.due("a stale one, being renewed again", stale.restoreSlots(), -2);
        stale.renew(11);
        S.due("a copy taken anew", stale.saveSlots(), 1);
        S.due("it is of use", stale.restoreSlots(), 1);
    }

    // Promise 3

    private static void unlock() {
        S.test(3, "There is no volume: NONE", "any int", () -> {
            for (int passphrase : Volumes.INTS) {
                S.due("unlock(" + passphrase + ")", Volumes.none().unlock(passphrase), -2);
            }
        });
        S.test(3, "it is open: BUSY", "right and wrong passphrases", () -> {
            SealedVolume v = Volumes.open();
            S.due("the right one", v.unlock(Volumes.OWN), -5);
            S.due("a wrong one", v.unlock(8), -5);
            S.due("state", v.state(), 2);
        });
        S.test(3, "no slot has the passphrase: WRONG", "near ones, removed ones, changed ones",
            VolumeBoundariesTest::unlockWrong);
        S.test(3, "Else the volume is open, and the answer is the slot", "every slot of every set of slots",
            VolumeBoundariesTest::unlockEachSlot);
        S.test(3, "Else the volume is open, and the answer is the slot", "after a wrong one", () -> {
            SealedVolume v = Volumes.locked();
            v.unlock(8);
            S.due("unlock", v.unlock(Volumes.OWN), 0);
            S.due("state", v.state(), 2);
        });
    }

    private static void unlockWrong() {
        SealedVolume v = Volumes.withSlots(15);
        v.removeKey(1);
        v.changeKey(2, 5);
        v.lock();
        S.due("a removed one", v.unlock(101), -4);
        S.due("a changed one", v.unlock(102), -4);
        S.due("0", v.unlock(0), -4);
        for (int bit = 0; bit < 32; bit++) {
            S.due("5 with bit " + bit + " turned", v.unlock(5 ^ 1 << bit), -4);
        }
        S.due("state", v.state(), 1);
    }

    private static void unlockEachSlot() {
        for (int bits = 1; bits < 16; bits++) {
            SealedVolume v = Volumes.withSlots(bits);
            v.write(11, 7, 99);
            for (int slot = 0; slot < 4; slot++) {
                v.lock();
                boolean opens = Volumes.has(bits, slot);
                S.due("unlock, slots " + bits, v.unlock(Volumes.passphraseOf(slot)), opens ? slot : -4);
                S.due("state, slots " + bits, v.state(), opens ? 2 : 1);
                S.due("read, slots " + bits, v.read(11, 7), opens ? 99 : 0);
            }
        }
    }

    // Promise 4

    private static void lock() {
        S.test(4, "The volume is locked", "and keeps what it had", () -> {
            SealedVolume v = Volumes.filled();
            v.damage(5, 5);
            v.lock();
            S.due("read", v.read(0, 0), 0);
            S.due("write", v.write(0, 0, 1), -3);
            v.unlock(Volumes.OWN);
            S.due("read when open", v.read(0, 0), Volumes.valueAt(0, 0));
            S.due("check when open", v.check(5), -10);
        });
        S.test(4, "There is none: NONE", "a new object", () -> {
            SealedVolume v = Volumes.none();
            S.due("lock", v.lock(), -2);
            S.due("state", v.state(), 0);
        });
        S.test(4, "Else answers 1 if it was open", "each number of sectors left to renew", () -> {
            for (int left = 0; left <= 12; left++) {
                SealedVolume v = Volumes.toRenew(left);
                S.due("lock", v.lock(), 1);
                S.due("state", v.state(), 1);
                S.due("toRenew", v.toRenew(), left);
            }
        });
        S.test(4, "else 0", "a new volume, and one locked before", () -> {
            SealedVolume v = Volumes.locked();
            S.due("a new one", v.lock(), 0);
            v.unlock(Volumes.OWN);
            v.lock();
            S.due("locked before", v.lock(), 0);
            S.due("state", v.state(), 1);
        });
    }

    // Promise 5

    private static void stateOfLocked() {
        S.due("after format", Volumes.locked().state(), 1);
        SealedVolume v = Volumes.open();
        v.lock();
        S.due("after lock", v.state(), 1);
        v.unlock(8);
        S.due("after a wrong passphrase", v.state(), 1);
        v.unlock(Volumes.OWN);
        v.crash(0);
        S.due("after a crash", v.state(), 1);
        v.unlock(Volumes.OWN);
        v.saveSlots();
        v.restoreSlots();
        S.due("after restoreSlots", v.state(), 1);
    }

    private static void stateOfOpen() {
        SealedVolume v = laden();
        S.due("laden", v.state(), 2);
        v.removeKey(0);
        S.due("the passphrase that opened it is gone", v.state(), 2);
        S.due("new", Volumes.open().state(), 2);
    }
}
