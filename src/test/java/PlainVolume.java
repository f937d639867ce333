/** The document in its plainest form, all in clear: what the sealed class is compared with. */
final class PlainVolume {
    private static final int SECTORS = 12;
    private static final int CELLS = 8;
    private static final int SLOTS = 4;
    private static final int ALL_CELLS = 96;

    private final int[] cells = new int[ALL_CELLS];
    private final boolean[] damaged = new boolean[SECTORS];
    private final int[] passphrases = new int[SLOTS];
    private final boolean[] taken = new boolean[SLOTS];
    private final int[] copyPassphrases = new int[SLOTS];
    private final boolean[] copyTaken = new boolean[SLOTS];
    private boolean present;
    private boolean open;
    private int left;
    private boolean copied;
    private boolean copyStale;

    PlainVolume() {
    }

    int format(int passphrase) {
        for (int i = 0; i < ALL_CELLS; i++) {
            cells[i] = 0;
        }
        for (int s = 0; s < SECTORS; s++) {
            damaged[s] = false;
        }
        for (int s = 0; s < SLOTS; s++) {
            taken[s] = false;
        }
        passphrases[0] = passphrase;
        taken[0] = true;
        present = true;
        open = false;
        left = 0;
        copied = false;
        return 0;
    }

    int unlock(int passphrase) {
        if (!present) {
            return SealedVolume.NONE;
        }
        if (open) {
            return SealedVolume.BUSY;
        }
        int slot = find(passphrase);
        if (slot < 0) {
            return SealedVolume.WRONG;
        }
        open = true;
        return slot;
    }

    int lock() {
        if (!present) {
            return SealedVolume.NONE;
        }
        int was = open ? 1 : 0;
        open = false;
        return was;
    }

    int state() {
        if (!present) {
            return 0;
        }
        return open ? 2 : 1;
    }

    int read(int sector, int cell) {
        if (!goodSector(sector) || !goodCell(cell) || !open || damaged[sector]) {
            return 0;
        }
        return cells[CELLS * sector + cell];
    }

    int write(int sector, int cell, int value) {
        if (!goodSector(sector) || !goodCell(cell)) {
            return SealedVolume.BAD;
        }
        if (!open) {
            return SealedVolume.LOCKED;
        }
        if (damaged[sector]) {
            return SealedVolume.DAMAGED;
        }
        cells[CELLS * sector + cell] = value;
        return 0;
    }

    int fill(int sector, int value, int step) {
        if (!goodSector(sector)) {
            return SealedVolume.BAD;
        }
        if (!open) {
            return SealedVolume.LOCKED;
        }
        for (int c = 0; c < CELLS; c++) {
            cells[CELLS * sector + c] = value + c * step;
        }
        int was = damaged[sector] ? 1 : 0;
        damaged[sector] = false;
        return was;
    }

    int check(int sector) {
        if (!goodSector(sector)) {
            return SealedVolume.BAD;
        }
        if (!open) {
            return SealedVolume.LOCKED;
        }
        return damaged[sector] ? SealedVolume.DAMAGED : 0;
    }

    int digest() {
        int sum = 0;
        if (!open) {
            return sum;
        }
        for (int i = 0; i < ALL_CELLS; i++) {
            if (!damaged[i / CELLS]) {
                sum += (i + 1) * cells[i];
            }
        }
        return sum;
    }

    int addKey(int passphrase) {
        if (!open) {
            return SealedVolume.LOCKED;
        }
        if (find(passphrase) >= 0) {
            return SealedVolume.EXISTS;
        }
        for (int s = 0; s < SLOTS; s++) {
            if (!taken[s]) {
                taken[s] = true;
                passphrases[s] = passphrase;
                return s;
            }
        }
        return SealedVolume.FULL;
    }

    int removeKey(int slot) {
        if (!goodSlot(slot)) {
            return SealedVolume.BAD;
        }
        if (!open) {
            return SealedVolume.LOCKED;
        }
        if (!taken[slot]) {
            return SealedVolume.NONE;
        }
        if (count() == 1) {
            return SealedVolume.LAST;
        }
        taken[slot] = false;
        return count();
    }

    int changeKey(int slot, int passphrase) {
        if (!goodSlot(slot)) {
            return SealedVolume.BAD;
        }
        if (!open) {
            return SealedVolume.LOCKED;
        }
        if (!taken[slot]) {
            return SealedVolume.NONE;
        }
        int holder = find(passphrase);
        if (holder == slot) {
            return 0;
        }
        if (holder >= 0) {
            return SealedVolume.EXISTS;
        }
        passphrases[slot] = passphrase;
        return 1;
    }

    int slots() {
        int bits = 0;
        for (int s = 0; s < SLOTS; s++) {
            if (taken[s]) {
                bits |= 1 << s;
            }
        }
        return bits;
    }

    int slotOf(int passphrase) {
        if (!present) {
            return SealedVolume.NONE;
        }
        int slot = find(passphrase);
        return slot < 0 ? SealedVolume.WRONG : slot;
    }

    int renew(int steps) {
        if (!open) {
            return SealedVolume.LOCKED;
        }
        if (left == 0) {
            left = SECTORS;
            copyStale = true;
        }
        if (steps >= left) {
            left = 0;
        } else if (steps > 0) {
            left -= steps;
        }
        return left;
    }

    int toRenew() {
        return left;
    }

    int saveSlots() {
        if (!present) {
            return SealedVolume.NONE;
        }
        for (int s = 0; s < SLOTS; s++) {
            copyTaken[s] = taken[s];
            copyPassphrases[s] = passphrases[s];
        }
        copied = true;
        copyStale = left > 0;
        return count();
    }

    int restoreSlots() {
        if (!present || !copied) {
            return SealedVolume.NONE;
        }
        if (copyStale) {
            return SealedVolume.STALE;
        }
        for (int s = 0; s < SLOTS; s++) {
            taken[s] = copyTaken[s];
            passphrases[s] = copyPassphrases[s];
        }
        open = false;
        return count();
    }

    int damage(int sector, int place) {
        if (!goodSector(sector)) {
            return SealedVolume.BAD;
        }
        if (!present) {
            return SealedVolume.NONE;
        }
        if (damaged[sector]) {
            return SealedVolume.BUSY;
        }
        damaged[sector] = true;
        return 0;
    }

    int crash(int steps) {
        if (!present) {
            return SealedVolume.NONE;
        }
        open = false;
        return left;
    }

    int faults() {
        return 0;
    }

    private boolean goodSector(int sector) {
        return sector >= 0 && sector < SECTORS;
    }

    private boolean goodCell(int cell) {
        return cell >= 0 && cell < CELLS;
    }

    private boolean goodSlot(int slot) {
        return slot >= 0 && slot < SLOTS;
    }

    private int find(int passphrase) {
        for (int s = 0; s < SLOTS; s++) {
            if (taken[s] && passphrases[s] == passphrase) {
                return s;
            }
        }
        return -1;
    }

    private int count() {
        int n = 0;
        for (int s = 0; s < SLOTS; s++) {
            if (taken[s]) {
                n++;
            }
        }
        return n;
    }
}
