public final class SealedVolume {
    public static final int BAD = -1;
    public static final int NONE = -2;
    public static final int LOCKED = -3;
    public static final int WRONG = -4;
    public static final int BUSY = -5;
    public static final int EXISTS = -6;
    public static final int FULL = -7;
    public static final int LAST = -8;
    public static final int STALE = -9;
    public static final int DAMAGED = -10;

    private static final int SECTORS = 12;
    private static final int CELLS = 8;
    private static final int SLOTS = 4;
    private static final int ALL_CELLS = 96;

    private final int[] cells = new int[ALL_CELLS];
    private final boolean[] damaged = new boolean[SECTORS];
    private final int[] passphrases = new int[SLOTS];
    private final boolean[] taken = new boolean[SLOTS];
    private final int[] copyPassphrases = new int[SLOTS];
    private final boolean[] copyTaken = new boolean[SLOTS];
    private boolean present;
    private boolean open;
    private int left;
    private boolean copied;
    private boolean copyStale;

    public SealedVolume() {
    }

    public int format(int passphrase) {
        for (int i = 0; i < ALL_CELLS; i++) {
            cells[i] = 0;
        }
        for (int s = 0; s < SECTORS; s++) {
            damaged[s] = false;
        }
        for (int s = 0; s < SLOTS; s++) {
            taken[s] = false;
        }
        passphrases[0] = passphrase;
        taken[0] = true;
        present = true;
        open = false;
        left = 0;
        copied = false;
        return 0;
    }

    public int unlock(int passphrase) {
        if (!present) {
            return NONE;
        }
        if (open) {
            return BUSY;
        }
        int slot = find(passphrase);
        if (slot < 0) {
            return WRONG;
        }
        open = true;
        return slot;
    }

    public int lock() {
        if (!present) {
            return NONE;
        }
        int was = open ? 1 : 0;
        open = false;
        return was;
    }

    public int state() {
        if (!present) {
            return 0;
        }
        return open ? 2 : 1;
    }

    public int read(int sector, int cell) {
        if (!goodSector(sector) || !goodCell(cell) || !open || damaged[sector]) {
            return 0;
        }
        return cells[CELLS * sector + cell];
    }

    public int write(int sector, int cell, int value) {
        if (!goodSector(sector) || !goodCell(cell)) {
            return BAD;
        }
        if (!open) {
            return LOCKED;
        }
        if (damaged[sector]) {
            return DAMAGED;
        }
        cells[CELLS * sector + cell] = value;
        return 0;
    }

    public int fill(int sector, int value, int step) {
        if (!goodSector(sector)) {
            return BAD;
        }
        if (!open) {
            return LOCKED;
        }
        for (int c = 0; c < CELLS; c++) {
            cells[CELLS * sector + c] = value + c * step;
        }
        int was = damaged[sector] ? 1 : 0;
        damaged[sector] = false;
        return was;
    }

    public int check(int sector) {
        if (!goodSector(sector)) {
            return BAD;
        }
        if (!open) {
            return LOCKED;
        }
        return damaged[sector] ? DAMAGED : 0;
    }

    public int digest() {
        int sum = 0;
        if (!open) {
            return sum;
        }
        for (int i = 0; i < ALL_CELLS; i++) {
            if (!damaged[i / CELLS]) {
                sum += (i + 1) * cells[i];
            }
        }
        return sum;
    }

    public int addKey(int passphrase) {
        if (!open) {
            return LOCKED;
        }
        if (find(passphrase) >= 0) {
            return EXISTS;
        }
        for (int s = 0; s < SLOTS; s++) {
            if (!taken[s]) {
                taken[s] = true;
                passphrases[s] = passphrase;
                return s;
            }
        }
        return FULL;
    }

    public int removeKey(int slot) {
        if (!goodSlot(slot)) {
            return BAD;
        }
        if (!open) {
            return LOCKED;
        }
        if (!taken[slot]) {
            return NONE;
        }
        if (count() == 1) {
            return LAST;
        }
        taken[slot] = false;
        return count();
    }

    public int changeKey(int slot, int passphrase) {
        if (!goodSlot(slot)) {
            return BAD;
        }
        if (!open) {
            return LOCKED;
        }
        if (!taken[slot]) {
            return NONE;
        }
        int holder = find(passphrase);
        if (holder == slot) {
            return 0;
        }
        if (holder >= 0) {
            return EXISTS;
        }
        passphrases[slot] = passphrase;
        return 1;
    }

    public int slots() {
        int bits = 0;
        for (int s = 0; s < SLOTS; s++) {
            if (taken[s]) {
                bits |= 1 << s;
            }
        }
        return bits;
    }

    public int slotOf(int passphrase) {
        if (!present) {
            return NONE;
        }
        int slot = find(passphrase);
        return slot < 0 ? WRONG : slot;
    }

    public int renew(int steps) {
        if (!open) {
            return LOCKED;
        }
        if (left == 0) {
            left = SECTORS;
            copyStale = true;
        }
        if (steps >= left) {
            left = 0;
        } else if (steps > 0) {
            left -= steps;
        }
        return left;
    }

    public int toRenew() {
        return left;
    }

    public int saveSlots() {
        if (!present) {
            return NONE;
        }
        for (int s = 0; s < SLOTS; s++) {
            copyTaken[s] = taken[s];
            copyPassphrases[s] = passphrases[s];
        }
        copied = true;
        copyStale = left > 0;
        return count();
    }

    public int restoreSlots() {
        if (!present || !copied) {
            return NONE;
        }
        if (copyStale) {
            return STALE;
        }
        for (int s = 0; s < SLOTS; s++) {
            taken[s] = copyTaken[s];
            passphrases[s] = copyPassphrases[s];
        }
        open = false;
        return count();
    }

    public int damage(int sector, int place) {
        if (!goodSector(sector)) {
            return BAD;
        }
        if (!present) {
            return NONE;
        }
        if (damaged[sector]) {
            return BUSY;
        }
        damaged[sector] = true;
        return 0;
    }

    public int crash(int steps) {
        if (!present) {
            return NONE;
        }
        open = false;
        return left;
    }

    public int faults() {
        return 0;
    }

    private boolean goodSector(int sector) {
        return sector >= 0 && sector < SECTORS;
    }

    private boolean goodCell(int cell) {
        return cell >= 0 && cell < CELLS;
    }

    private boolean goodSlot(int slot) {
        return slot >= 0 && slot < SLOTS;
    }

    private int find(int passphrase) {
        for (int s = 0; s < SLOTS; s++) {
            if (taken[s] && passphrases[s] == passphrase) {
                return s;
            }
        }
        return -1;
    }

    private int count() {
        int n = 0;
        for (int s = 0; s < SLOTS; s++) {
            if (taken[s]) {
                n++;
            }
        }
        return n;
    }
}
