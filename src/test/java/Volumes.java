/** Objects in the states that the tests of boundary cases begin with, and what can be seen of an object. */
final class Volumes {
    static final int MIN = Integer.MIN_VALUE;
    static final int MAX = Integer.MAX_VALUE;
    static final int[] NOT_SECTORS = {-1, 12, 13, 24, -12, MIN, MIN + 1, MAX - 1, MAX};
    static final int[] NOT_CELLS = {-1, 8, 9, 16, -8, MIN, MIN + 1, MAX - 1, MAX};
    static final int[] NOT_SLOTS = {-1, 4, 5, 32, -32, MIN, MIN + 1, MAX - 1, MAX};
    static final int[] INTS = {0, 1, -1, 2, 65535, 65536, MAX - 1, MAX, MIN, MIN + 1};

    /** The passphrase of the volumes made here with one slot alone. */
    static final int OWN = 7;

    private Volumes() {
    }

    static SealedVolume none() {
        return new SealedVolume();
    }

    static SealedVolume locked() {
        SealedVolume v = none();
        v.format(OWN);
        return v;
    }

    static SealedVolume open() {
        SealedVolume v = locked();
        v.unlock(OWN);
        return v;
    }

    /** The passphrase that slot s has in a volume of withSlots. */
    static int passphraseOf(int slot) {
        return 100 + slot;
    }

    /** An open volume in which just the slots of these bits have passphrases. */
    static SealedVolume withSlots(int bits) {
        SealedVolume v = none();
        v.format(passphraseOf(0));
        v.unlock(passphraseOf(0));
        for (int slot = 1; slot < 4; slot++) {
            v.addKey(passphraseOf(slot));
        }
        keepSlots(v, bits);
        return v;
    }

    static void keepSlots(SealedVolume v, int bits) {
        for (int slot = 0; slot < 4; slot++) {
            if (!has(bits, slot)) {
                v.removeKey(slot);
            }
        }
    }

    static boolean has(int bits, int slot) {
        return (bits >> slot & 1) == 1;
    }

    /** An open volume with so many sectors still to be renewed, 0 for one that is not being renewed. */
    static SealedVolume toRenew(int left) {
        SealedVolume v = filled();
        if (left > 0) {
            v.renew(12 - left);
        }
        return v;
    }

    /** An open volume in which no two cells hold the same, and none holds 0. */
    static SealedVolume filled() {
        SealedVolume v = open();
        for (int sector = 0; sector < 12; sector++) {
            v.fill(sector, valueAt(sector, 0), valueAt(0, 1) - valueAt(0, 0));
        }
        return v;
    }

    static int valueAt(int sector, int cell) {
        return 1000003 * (8 * sector + cell + 1);
    }

    static void damageAll(SealedVolume v) {
        for (int sector = 0; sector < 12; sector++) {
            v.damage(sector, 29 * sector);
        }
    }

    /** The answers of all questions: what can be seen without changing anything. */
    static String questions(SealedVolume v) {
        StringBuilder seen = new StringBuilder();
        seen.append(v.state()).append(' ').append(v.slots()).append(' ').append(v.toRenew());
        seen.append(' ').append(v.digest()).append(' ').append(v.faults());
        for (int sector = 0; sector < 12; sector++) {
            seen.append(" | ").append(v.check(sector));
            for (int cell = 0; cell < 8; cell++) {
                seen.append(' ').append(v.read(sector, cell));
            }
        }
        seen.append(" |");
        for (int passphrase : ASKED) {
            seen.append(' ').append(v.slotOf(passphrase));
        }
        return seen.toString();
    }

    private static final int[] ASKED = {OWN, 8, 9, 10, 0, 100, 101, 102, 103};

    /**
     * As well what shows only when the copy is used, the volume opened and a renewing begun; some 270 calls. If no
     * question is asked before that, one that changes something by being asked shows too.
     */
    static String everything(SealedVolume v, boolean askFirst) {
        StringBuilder seen = new StringBuilder(askFirst ? questions(v) : "");
        seen.append(" copy ").append(v.restoreSlots()).append(" opened");
        for (int passphrase : ASKED) {
            seen.append(' ').append(v.unlock(passphrase));
        }
        seen.append(' ').append(questions(v));
        seen.append(" renewed ").append(v.renew(1)).append(' ').append(v.lock());
        return seen.toString();
    }
}
