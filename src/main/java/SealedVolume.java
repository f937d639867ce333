/**
 * A volume whose contents only a passphrase opens.
 *
 * The cells are kept enciphered under a key that the object holds only while the volume is open; each slot
 * keeps that key wrapped, so that it can be had back with the slot's passphrase and not without one.
 */
public final class SealedVolume {
    public static final int BAD = -1;
    public static final int NONE = -2;
    public static final int LOCKED = -3;
    public static final int WRONG = -4;
    public static final int BUSY = -5;
    public static final int EXISTS = -6;
    public static final int FULL = -7;
    public static final int LAST = -8;
    public static final int STALE = -9;
    public static final int DAMAGED = -10;

    private static final int SECTORS = 12;
    private static final int CELLS = 8;
    private static final int SLOTS = 4;
    private static final int NO_SLOT = -1;

    private static final int KEY_WORDS = 8;
    private static final int BLOCK_WORDS = 16;
    private static final int DOUBLE_ROUNDS = 10;

    // A row is a sector as it is kept: its cells enciphered, then a sum over them.
    private static final int ROW_WORDS = CELLS + 1;
    private static final int ROW_BITS = 32 * ROW_WORDS;
    // Two rows a sector, so that a renewed one never overwrites the one that still holds.
    private static final int KEPT_WORDS = 2 * SECTORS * ROW_WORDS;

    // A slot is kept as the words that its passphrase is known by, then the wrapped key.
    private static final int CHECK_WORDS = 8;
    private static final int SLOT_WORDS = CHECK_WORDS + KEY_WORDS;
    private static final int ALL_SLOT_WORDS = SLOTS * SLOT_WORDS;

    private static final int FOR_KEY = 1;
    private static final int FOR_CHECK = 2;
    private static final int FOR_WRAP = 3;
    // Always the same, so that it could be tried out over all ints (PassphrasesApart, among the tests) that no two of
    // them have the same check words.
    private static final int CHECK_SALT = 0;

    private final int[] kept = new int[KEPT_WORDS];
    private final int[] epochs = new int[SECTORS];
    private final int[] versions = new int[SECTORS];
    private final int[] slotWords = new int[ALL_SLOT_WORDS];
    private final int[] copyWords = new int[ALL_SLOT_WORDS];
    private final int[] key = new int[KEY_WORDS];
    private final int[] seed = new int[BLOCK_WORDS];
    private final int[] stream = new int[BLOCK_WORDS];
    private final int[] work = new int[ROW_WORDS];
    private boolean present;
    private boolean open;
    private boolean copied;
    private boolean copyStale;
    private int taken;
    private int copyTaken;
    private int volumeEpoch;
    private int formats;

    public SealedVolume() {
    }

    // Volumes, locked and open.

    public int format(int passphrase) {
        present = true;
        open = false;
        copied = false;
        // Without a random source, only this tells the key from that of an earlier volume of the same passphrase.
        formats++;
        makeKey(passphrase);
        eraseSectors();
        eraseSlots();
        putSlot(0, passphrase);
        forgetSecrets();
        return 0;
    }

    public int unlock(int passphrase) {
        if (!present) {
            return NONE;
        }
        if (open) {
            return BUSY;
        }
        int slot = findSlot(passphrase);
        if (slot == NO_SLOT) {
            forgetSecrets();
            return WRONG;
        }
        unwrapKey(slot, passphrase);
        open = true;
        return slot;
    }

    public int lock() {
        if (!present) {
            return NONE;
        }
        int was = open ? 1 : 0;
        close();
        return was;
    }

    public int state() {
        if (!present) {
            return 0;
        }
        return open ? 2 : 1;
    }

    // Sectors and cells.

    public int read(int sector, int cell) {
        if (!isSector(sector) || !isCell(cell) || !open) {
            return 0;
        }
        if (isDamaged(sector)) {
            return 0;
        }
        unsealToWork(sector);
        return work[cell];
    }

    public int write(int sector, int cell, int value) {
        if (!isSector(sector) || !isCell(cell)) {
            return BAD;
        }
        if (!open) {
            return LOCKED;
        }
        if (isDamaged(sector)) {
            return DAMAGED;
        }
        unsealToWork(sector);
        work[cell] = value;
        keepNewContents(sector);
        return 0;
    }

    public int fill(int sector, int value, int step) {
        if (!isSector(sector)) {
            return BAD;
        }
        if (!open) {
            return LOCKED;
        }
        int was = isDamaged(sector) ? 1 : 0;
        for (int cell = 0; cell < CELLS; cell++) {
            work[cell] = value + cell * step;
        }
        keepNewContents(sector);
        return was;
    }

    public int check(int sector) {
        if (!isSector(sector)) {
            return BAD;
        }
        if (!open) {
            return LOCKED;
        }
        return isDamaged(sector) ? DAMAGED : 0;
    }

    public int digest() {
        if (!open) {
            return 0;
        }
        int sum = 0;
        for (int sector = 0; sector < SECTORS; sector++) {
            if (!isDamaged(sector)) {
                sum += digestOfSector(sector);
            }
        }
        return sum;
    }

    // Slots and passphrases.

    public int addKey(int passphrase) {
        if (!open) {
            return LOCKED;
        }
        if (findSlot(passphrase) != NO_SLOT) {
            return EXISTS;
        }
        for (int slot = 0; slot < SLOTS; slot++) {
            if (!isTaken(slot)) {
                putSlot(slot, passphrase);
                return slot;
            }
        }
        return FULL;
    }

    public int removeKey(int slot) {
        if (!isSlot(slot)) {
            return BAD;
        }
        if (!open) {
            return LOCKED;
        }
        if (!isTaken(slot)) {
            return NONE;
        }
        if (countTaken() == 1) {
            return LAST;
        }
        emptySlot(slot);
        return countTaken();
    }

    public int changeKey(int slot, int passphrase) {
        if (!isSlot(slot)) {
            return BAD;
        }
        if (!open) {
            return LOCKED;
        }
        if (!isTaken(slot)) {
            return NONE;
        }
        int holder = findSlot(passphrase);
        if (holder == slot) {
            return 0;
        }
        if (holder != NO_SLOT) {
            return EXISTS;
        }
        putSlot(slot, passphrase);
        return 1;
    }

    public int slots() {
        return taken;
    }

    public int slotOf(int passphrase) {
        if (!present) {
            return NONE;
        }
        int slot = findSlot(passphrase);
        // The search leaves words made from the passphrase, and a locked volume must not hold any.
        if (!open) {
            forgetSecrets();
        }
        return slot == NO_SLOT ? WRONG : slot;
    }

    // Renewing.

    public int renew(int steps) {
        if (!open) {
            return LOCKED;
        }
        if (countToRenew() == 0) {
            volumeEpoch++;
            copyStale = true;
        }
        int first = SECTORS - countToRenew();
        for (int sector = first; sector < SECTORS && sector - first < steps; sector++) {
            writeRenewed(sector, ROW_WORDS);
            finishRenewed(sector);
        }
        return countToRenew();
    }

    public int toRenew() {
        return countToRenew();
    }

    // Copies, damage, crashes.

    public int saveSlots() {
        if (!present) {
            return NONE;
        }
        for (int i = 0; i < ALL_SLOT_WORDS; i++) {
            copyWords[i] = slotWords[i];
        }
        copyTaken = taken;
        copied = true;
        copyStale = countToRenew() > 0;
        return countTaken();
    }

    public int restoreSlots() {
        if (!present || !copied) {
            return NONE;
        }
        // A renewing that is under way began before the copy or after it: the mark was set then.
        if (copyStale) {
            return STALE;
        }
        for (int i = 0; i < ALL_SLOT_WORDS; i++) {
            slotWords[i] = copyWords[i];
        }
        taken = copyTaken;
        close();
        return countTaken();
    }

    public int damage(int sector, int place) {
        if (!isSector(sector)) {
            return BAD;
        }
        if (!present) {
            return NONE;
        }
        if (isDamaged(sector)) {
            return BUSY;
        }
        int remainder = place % ROW_BITS;
        int bit = remainder < 0 ? remainder + ROW_BITS : remainder;
        int row = rowOf(sector, epochs[sector]);
        kept[row + bit / 32] ^= 1 << (bit % 32);
        return 0;
    }

    public int crash(int steps) {
        if (!present) {
            return NONE;
        }
        int left = countToRenew();
        if (open && left > 0) {
            writeRenewed(SECTORS - left, steps);
        }
        close();
        return left;
    }

    public int faults() {
        if (!present) {
            return 0;
        }
        int found = taken == 0 ? 1 : 0;
        for (int sector = 1; sector < SECTORS; sector++) {
            if (epochs[sector] == volumeEpoch && epochs[sector - 1] != volumeEpoch) {
                found++;
            }
        }
        for (int i = 0; i < KEY_WORDS; i++) {
            if (!open && key[i] != 0) {
                found++;
            }
        }
        return found;
    }

    // What is good, taken, damaged, still to be renewed.

    private boolean isSector(int sector) {
        return sector >= 0 && sector < SECTORS;
    }

    private boolean isCell(int cell) {
        return cell >= 0 && cell < CELLS;
    }

    private boolean isSlot(int slot) {
        return slot >= 0 && slot < SLOTS;
    }

    private boolean isTaken(int slot) {
        return (taken >> slot & 1) == 1;
    }

    private int countTaken() {
        int count = 0;
        for (int slot = 0; slot < SLOTS; slot++) {
            count += taken >> slot & 1;
        }
        return count;
    }

    private int countToRenew() {
        int count = 0;
        for (int sector = 0; sector < SECTORS; sector++) {
            if (epochs[sector] != volumeEpoch) {
                count++;
            }
        }
        return count;
    }

    private boolean isDamaged(int sector) {
        int row = rowOf(sector, epochs[sector]);
        return kept[row + CELLS] != sumOf(kept, row);
    }

    // Sectors as they are kept.

    private int rowOf(int sector, int epoch) {
        return (2 * sector + (epoch & 1)) * ROW_WORDS;
    }

    /**
     * Every step can be undone (the factor is odd), in the sum and in the word alike, so that a change of one word
     * alone always changes the sum: no damage goes unseen. It needs no key, as damage is looked for in a locked
     * volume too.
     */
    private int sumOf(int[] words, int from) {
        int sum = 0x2545f491;
        for (int i = 0; i < CELLS; i++) {
            sum = (sum ^ words[from + i]) * 0x9e3779b1;
        }
        return sum;
    }

    private void unsealToWork(int sector) {
        seedFromKey(sector, epochs[sector]);
        scramble();
        int row = rowOf(sector, epochs[sector]);
        for (int i = 0; i < CELLS; i++) {
            work[i] = kept[row + i] ^ stream[i];
        }
    }

    private void sealWork(int sector, int epoch) {
        seedFromKey(sector, epoch);
        scramble();
        for (int i = 0; i < CELLS; i++) {
            work[i] ^= stream[i];
        }
        work[CELLS] = sumOf(work, 0);
    }

    private void keepWork(int row, int writes) {
        for (int i = 0; i < ROW_WORDS && i < writes; i++) {
            kept[row + i] = work[i];
        }
    }

    private void keepNewContents(int sector) {
        // The same stream over two contents would show how they differ.
        versions[sector]++;
        sealWork(sector, epochs[sector]);
        int row = rowOf(sector, epochs[sector]);
        keepWork(row, ROW_WORDS);
    }

    private int digestOfSector(int sector) {
        unsealToWork(sector);
        int sum = 0;
        for (int cell = 0; cell < CELLS; cell++) {
            sum += (CELLS * sector + cell + 1) * work[cell];
        }
        return sum;
    }

    private void eraseSectors() {
        volumeEpoch = 0;
        for (int i = 0; i < KEPT_WORDS; i++) {
            kept[i] = 0;
        }
        for (int sector = 0; sector < SECTORS; sector++) {
            epochs[sector] = 0;
            for (int cell = 0; cell < CELLS; cell++) {
                work[cell] = 0;
            }
            sealWork(sector, 0);
            int row = rowOf(sector, 0);
            keepWork(row, ROW_WORDS);
        }
    }

    /** Writes into the row that is not in use: until the epoch of the sector is set, nothing has changed. */
    private void writeRenewed(int sector, int writes) {
        int row = rowOf(sector, epochs[sector]);
        int torn = kept[row + CELLS] ^ sumOf(kept, row);
        unsealToWork(sector);
        sealWork(sector, volumeEpoch);
        // A right sum over damaged words would pass them off as sound.
        work[CELLS] ^= torn;
        int renewedRow = rowOf(sector, volumeEpoch);
        keepWork(renewedRow, writes);
    }

    private void finishRenewed(int sector) {
        int oldRow = rowOf(sector, epochs[sector]);
        epochs[sector] = volumeEpoch;
        for (int i = 0; i < ROW_WORDS; i++) {
            kept[oldRow + i] = 0;
        }
    }

    // Slots as they are kept.

    private int findSlot(int passphrase) {
        streamFromPassphrase(passphrase, FOR_CHECK, CHECK_SALT);
        for (int slot = 0; slot < SLOTS; slot++) {
            if (isTaken(slot) && streamBelongsTo(slot)) {
                return slot;
            }
        }
        return NO_SLOT;
    }

    private boolean streamBelongsTo(int slot) {
        int differences = 0;
        for (int i = 0; i < CHECK_WORDS; i++) {
            differences |= slotWords[slot * SLOT_WORDS + i] ^ stream[i];
        }
        return differences == 0;
    }

    private void putSlot(int slot, int passphrase) {
        int from = slot * SLOT_WORDS;
        streamFromPassphrase(passphrase, FOR_CHECK, CHECK_SALT);
        for (int i = 0; i < CHECK_WORDS; i++) {
            slotWords[from + i] = stream[i];
        }
        streamFromPassphrase(passphrase, FOR_WRAP, formats);
        for (int i = 0; i < KEY_WORDS; i++) {
            slotWords[from + CHECK_WORDS + i] = stream[i] ^ key[i];
        }
        taken |= 1 << slot;
    }

    private void unwrapKey(int slot, int passphrase) {
        int from = slot * SLOT_WORDS + CHECK_WORDS;
        streamFromPassphrase(passphrase, FOR_WRAP, formats);
        for (int i = 0; i < KEY_WORDS; i++) {
            key[i] = slotWords[from + i] ^ stream[i];
        }
    }

    private void emptySlot(int slot) {
        for (int i = 0; i < SLOT_WORDS; i++) {
            slotWords[slot * SLOT_WORDS + i] = 0;
        }
        taken &= ~(1 << slot);
    }

    private void eraseSlots() {
        for (int slot = 0; slot < SLOTS; slot++) {
            emptySlot(slot);
        }
        for (int i = 0; i < ALL_SLOT_WORDS; i++) {
            copyWords[i] = 0;
        }
    }

    // Secrets.

    private void close() {
        open = false;
        forgetSecrets();
    }

    private void forgetSecrets() {
        for (int i = 0; i < KEY_WORDS; i++) {
            key[i] = 0;
        }
        for (int i = 0; i < BLOCK_WORDS; i++) {
            stream[i] = 0;
        }
        for (int i = 0; i < ROW_WORDS; i++) {
            work[i] = 0;
        }
    }

    private void makeKey(int passphrase) {
        streamFromPassphrase(passphrase, FOR_KEY, formats);
        for (int i = 0; i < KEY_WORDS; i++) {
            key[i] = stream[i];
        }
    }

    private void streamFromPassphrase(int passphrase, int use, int salt) {
        seed[4] = passphrase;
        seed[12] = use;
        seed[13] = salt;
        scramble();
    }

    private void seedFromKey(int sector, int epoch) {
        for (int i = 0; i < KEY_WORDS; i++) {
            seed[4 + i] = key[i];
        }
        seed[12] = sector;
        seed[13] = epoch;
        seed[14] = versions[sector];
    }

    /** The block function of ChaCha20 (RFC 8439), a known one: a cipher of one's own is easily a weak one. */
    private void scramble() {
        seed[0] = 0x61707865;
        seed[1] = 0x3320646e;
        seed[2] = 0x79622d32;
        seed[3] = 0x6b206574;
        for (int i = 0; i < BLOCK_WORDS; i++) {
            stream[i] = seed[i];
        }
        for (int round = 0; round < DOUBLE_ROUNDS; round++) {
            for (int i = 0; i < 4; i++) {
                quarterRound(i, 4 + i, 8 + i, 12 + i);
            }
            for (int i = 0; i < 4; i++) {
                quarterRound(i, 4 + (i + 1 & 3), 8 + (i + 2 & 3), 12 + (i + 3 & 3));
            }
        }
        for (int i = 0; i < BLOCK_WORDS; i++) {
            stream[i] += seed[i];
            // The seed is a passphrase or the key: it must not outlive its use. The next seed counts on the zeros.
            seed[i] = 0;
        }
    }

    private void quarterRound(int a, int b, int c, int d) {
        int p = stream[a];
        int q = stream[b];
        int r = stream[c];
        int s = stream[d];
        p += q;
        s ^= p;
        s = s << 16 | s >>> 16;
        r += s;
        q ^= r;
        q = q << 12 | q >>> 20;
        p += q;
        s ^= p;
        s = s << 8 | s >>> 24;
        r += s;
        q ^= r;
        q = q << 7 | q >>> 25;
        stream[a] = p;
        stream[b] = q;
        stream[c] = r;
        stream[d] = s;
    }
}
