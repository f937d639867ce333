/** The boundary cases of promises 18 and 19: the copy of the slots. */
public final class CopyBoundariesTest {
    private static final int LATER = 200;
    private static final Sentences S = new Sentences();

    public static void main(String[] args) {
        saveSlots();
        restoreSlots();
        stale();
        S.end();
    }

    private static int later(int slot) {
        return LATER + slot;
    }

    /** From the slots of these bits on, all four get passphrases of their own, then just the later bits are kept. */
    private static void changeTo(SealedVolume v, int bits, int laterBits) {
        for (int slot = 0; slot < 4; slot++) {
            if (Volumes.has(bits, slot)) {
                v.changeKey(slot, later(slot));
            }
        }
        for (int slot = 0; slot < 4; slot++) {
            if (!Volumes.has(bits, slot)) {
                v.addKey(later(slot));
            }
        }
        Volumes.keepSlots(v, laterBits);
    }

    // Promise 18

    private static void saveSlots() {
        S.test(18, "The copy becomes what the slots are", "every set of slots, whatever comes after", () -> {
            for (int bits = 1; bits < 16; bits++) {
                for (int laterBits = 1; laterBits < 16; laterBits++) {
                    SealedVolume v = Volumes.withSlots(bits);
                    v.saveSlots();
                    changeTo(v, bits, laterBits);
                    S.due("slots before", v.slots(), laterBits);
                    v.restoreSlots();
                    S.due("slots", v.slots(), bits);
                }
            }
        });
        S.test(18, "The copy becomes what the slots are", "in place of a copy that there was", () -> {
            for (int bits = 1; bits < 16; bits++) {
                SealedVolume v = Volumes.withSlots(15);
                v.saveSlots();
                Volumes.keepSlots(v, bits);
                v.saveSlots();
                v.restoreSlots();
                S.due("slots", v.slots(), bits);
                for (int slot = 0; slot < 4; slot++) {
                    int due = Volumes.has(bits, slot) ? slot : -4;
                    S.due("slotOf", v.slotOf(Volumes.passphraseOf(slot)), due);
                }
            }
        });
        S.test(18, "There is no volume: NONE", "and no copy is there then", () -> {
            SealedVolume v = Volumes.none();
            S.due("saveSlots", v.saveSlots(), -2);
            v.format(1);
            S.due("restoreSlots", v.restoreSlots(), -2);
        });
        S.test(18, "Else answers how many slots have passphrases", "every set of slots, open and locked", () -> {
            for (int bits = 1; bits < 16; bits++) {
                SealedVolume v = Volumes.withSlots(bits);
                S.due("open", v.saveSlots(), Integer.bitCount(bits));
                S.due("state", v.state(), 2);
                v.lock();
                S.due("locked", v.saveSlots(), Integer.bitCount(bits));
                S.due("state", v.state(), 1);
            }
        });
        S.test(18, "Else answers how many slots have passphrases", "each number of sectors left to renew", () -> {
            for (int left = 0; left <= 12; left++) {
                S.due("saveSlots", Volumes.toRenew(left).saveSlots(), 1);
            }
        });
    }

    // Promise 19

    private static void restoreSlots() {
        S.test(19, "The slots become what the copy is", "the passphrases of then, and none of later", () -> {
            for (int bits = 1; bits < 16; bits++) {
                SealedVolume v = Volumes.withSlots(bits);
                v.write(3, 3, 33);
                v.saveSlots();
                changeTo(v, bits, 15);
                v.restoreSlots();
                for (int slot = 0; slot < 4; slot++) {
                    int due = Volumes.has(bits, slot) ? slot : -4;
                    S.due("a later one", v.unlock(later(slot)), -4);
                    S.due("unlock", v.unlock(Volumes.passphraseOf(slot)), due);
                    S.due("read", v.read(3, 3), due < 0 ? 0 : 33);
                    v.lock();
                }
            }
        });
        S.test(19, "The slots become what the copy is", "again and again", () -> {
            SealedVolume v = Volumes.withSlots(3);
            v.saveSlots();
            for (int i = 0; i < 4; i++) {
                S.due("restoreSlots", v.restoreSlots(), 2);
                v.unlock(Volumes.passphraseOf(0));
                v.changeKey(0, later(i));
                v.removeKey(1);
            }
        });
        S.test(19, "and the volume is locked", "one that was open, and one that was locked", () -> {
            SealedVolume v = Volumes.open();
            v.saveSlots();
            S.due("restoreSlots, open", v.restoreSlots(), 1);
            S.due("state", v.state(), 1);
            S.due("restoreSlots, locked", v.restoreSlots(), 1);
            S.due("state", v.state(), 1);
        });
        S.test(19, "There is no volume or no copy: NONE", "no volume", () -> {
            SealedVolume v = Volumes.none();
            S.due("restoreSlots", v.restoreSlots(), -2);
            S.due("state", v.state(), 0);
        });
        S.test(19, "There is no volume or no copy: NONE", "no copy, and an open volume stays open", () -> {
            for (int left = 0; left <= 12; left++) {
                SealedVolume v = Volumes.toRenew(left);
                S.due("restoreSlots", v.restoreSlots(), -2);
                S.due("state", v.state(), 2);
            }
        });
        S.test(19, "Else answers how many slots have passphrases then", "every set of slots", () -> {
            for (int bits = 1; bits < 16; bits++) {
                SealedVolume v = Volumes.withSlots(bits);
                v.saveSlots();
                changeTo(v, bits, 5);
                S.due("restoreSlots", v.restoreSlots(), Integer.bitCount(bits));
            }
        });
    }

    private static void stale() {
        S.test(19, "a renewing has begun since the copy was taken", "begun and not ended", () -> {
            for (int left = 1; left <= 12; left++) {
                SealedVolume v = Volumes.open();
                v.saveSlots();
                v.renew(12 - left);
                refused(v, "renew(" + (12 - left) + ")");
            }
        });
        S.test(19, "a renewing has begun since the copy was taken", "begun and ended", () -> {
            SealedVolume v = Volumes.open();
            v.saveSlots();
            v.renew(12);
            refused(v, "renew(12)");
        });
        S.test(19, "a renewing has begun since the copy was taken", "a refused one begins nothing", () -> {
            SealedVolume v = Volumes.locked();
            v.saveSlots();
            v.renew(12);
            S.due("restoreSlots", v.restoreSlots(), 1);
        });
        S.test(19, "a renewing has begun since the copy was taken", "one that ended before does not count", () -> {
            SealedVolume v = Volumes.open();
            v.renew(12);
            v.saveSlots();
            S.due("restoreSlots", v.restoreSlots(), 1);
        });
        S.test(19, "or the volume was being renewed when it was taken", "and is no more", () -> {
            for (int left = 1; left <= 12; left++) {
                SealedVolume v = Volumes.toRenew(left);
                v.saveSlots();
                v.renew(left);
                refused(v, left + " were left");
            }
        });
        S.test(19, "or the volume was being renewed when it was taken", "taken while locked", () -> {
            SealedVolume v = Volumes.toRenew(1);
            v.lock();
            v.saveSlots();
            v.unlock(Volumes.OWN);
            v.renew(1);
            refused(v, "taken while locked");
        });
        S.test(19, "or is being renewed", "each number of sectors left, open and locked", () -> {
            for (int left = 1; left <= 12; left++) {
                SealedVolume v = Volumes.toRenew(left);
                v.saveSlots();
                refused(v, left + " are left");
            }
        });
        S.test(19, "STALE", "until a copy is taken when the volume is not being renewed", () -> {
            SealedVolume v = Volumes.toRenew(1);
            v.saveSlots();
            v.renew(1);
            refused(v, "the first copy");
            v.saveSlots();
            S.due("the second copy", v.restoreSlots(), 1);
        });
        S.test(19, "STALE", "a crash or a restart of the volume mends nothing", () -> {
            SealedVolume v = Volumes.open();
            v.saveSlots();
            v.renew(12);
            v.crash(1);
            v.unlock(Volumes.OWN);
            refused(v, "after a crash");
        });
    }

    /** An open volume with a stale copy: neither its slots change nor is it locked. */
    private static void refused(SealedVolume v, String what) {
        v.changeKey(0, LATER);
        S.due(what + ", restoreSlots", v.restoreSlots(), -9);
        S.due(what + ", state", v.state(), 2);
        S.due(what + ", slotOf", v.slotOf(LATER), 0);
        v.lock();
        S.due(what + ", restoreSlots, locked", v.restoreSlots(), -9);
        S.due(what + ", slotOf, locked", v.slotOf(LATER), 0);
        S.due(what + ", unlock", v.unlock(LATER), 0);
        v.changeKey(0, Volumes.OWN);
    }
}
