/** Promise by promise, as a tale of calls: ordinary inputs, edges and wrong inputs one after the other. */
public final class PromisesTest {
    private static final int MIN = Integer.MIN_VALUE;
    private static final int MAX = Integer.MAX_VALUE;
    private static final int[] NOT_SECTORS = {-1, 12, 13, MIN, MAX};
    private static final int[] NOT_CELLS = {-1, 8, 9, MIN, MAX};
    private static final int[] NOT_SLOTS = {-1, 4, 5, 32, MIN, MAX};
    private static final Checks CHECKS = new Checks();

    public static void main(String[] args) {
        newObject();
        format();
        formatReplacesAll();
        unlock();
        lock();
        state();
        read();
        write();
        fill();
        check();
        digest();
        addKey();
        removeKey();
        changeKey();
        slots();
        slotOf();
        renew();
        renewKeepsContents();
        toRenew();
        saveSlots();
        restoreSlots();
        restoreSlotsStale();
        damage();
        damageAnyPlace();
        crash();
        crashKeepsContents();
        faults();
        CHECKS.end();
    }

    private static void due(String what, int got, int want) {
        CHECKS.due(what, got, want);
    }

    private static SealedVolume locked() {
        SealedVolume v = new SealedVolume();
        v.format(7);
        return v;
    }

    private static SealedVolume open() {
        SealedVolume v = locked();
        v.unlock(7);
        return v;
    }

    // 1
    private static void newObject() {
        SealedVolume v = new SealedVolume();
        due("1: state", v.state(), 0);
        due("1: slots", v.slots(), 0);
        due("1: toRenew", v.toRenew(), 0);
        due("1: digest", v.digest(), 0);
        due("1: read", v.read(0, 0), 0);
        due("1: faults", v.faults(), 0);
        due("1: unlock", v.unlock(0), -2);
        due("1: lock", v.lock(), -2);
        due("1: slotOf", v.slotOf(0), -2);
        due("1: saveSlots", v.saveSlots(), -2);
        due("1: restoreSlots", v.restoreSlots(), -2);
        due("1: damage", v.damage(0, 0), -2);
        due("1: crash", v.crash(0), -2);
        due("1: write", v.write(0, 0, 1), -3);
        due("1: fill", v.fill(0, 1, 1), -3);
        due("1: check", v.check(0), -3);
        due("1: addKey", v.addKey(0), -3);
        due("1: removeKey", v.removeKey(0), -3);
        due("1: changeKey", v.changeKey(0, 1), -3);
        due("1: renew", v.renew(1), -3);
        due("1: state after refusals", v.state(), 0);
        SealedVolume other = new SealedVolume();
        v.format(1);
        due("1: objects are apart", other.state(), 0);
    }

    // 2
    private static void format() {
        for (int passphrase : new int[] {0, 1, -1, MIN, MAX}) {
            SealedVolume v = new SealedVolume();
            due("2: format", v.format(passphrase), 0);
            due("2: locked", v.state(), 1);
            due("2: slot 0 alone", v.slots(), 1);
            due("2: its passphrase", v.slotOf(passphrase), 0);
            due("2: no other", v.slotOf(passphrase + 1), -4);
            due("2: not being renewed", v.toRenew(), 0);
            due("2: no copy", v.restoreSlots(), -2);
            due("2: opens", v.unlock(passphrase), 0);
            for (int sector = 0; sector < 12; sector++) {
                due("2: sound", v.check(sector), 0);
                for (int cell = 0; cell < 8; cell++) {
                    due("2: cell", v.read(sector, cell), 0);
                }
            }
        }
    }

    private static void formatReplacesAll() {
        SealedVolume v = open();
        for (int sector = 0; sector < 12; sector++) {
            v.fill(sector, 100 + sector, 3);
        }
        v.addKey(8);
        v.saveSlots();
        v.damage(4, 77);
        v.renew(5);
        due("2: format while open and being renewed", v.format(9), 0);
        due("2: locked again", v.state(), 1);
        due("2: not being renewed again", v.toRenew(), 0);
        due("2: slot 0 alone again", v.slots(), 1);
        due("2: old passphrase", v.slotOf(7), -4);
        due("2: old passphrase of slot 1", v.slotOf(8), -4);
        due("2: copy is of no use", v.restoreSlots(), -2);
        due("2: old passphrase opens nothing", v.unlock(7), -4);
        due("2: new one does", v.unlock(9), 0);
        due("2: cells 0", v.digest(), 0);
        for (int sector = 0; sector < 12; sector++) {
            due("2: sound again", v.check(sector), 0);
            due("2: cell 0", v.read(sector, 7), 0);
        }
        due("2: the copy can be taken anew", v.saveSlots(), 1);
        due("2: and restored", v.restoreSlots(), 1);
        v.format(9);
        due("2: same passphrase, copy of no use either", v.restoreSlots(), -2);
    }

    // 3
    private static void unlock() {
        SealedVolume v = locked();
        due("3: wrong", v.unlock(8), -4);
        due("3: still locked", v.state(), 1);
        due("3: right", v.unlock(7), 0);
        due("3: open", v.state(), 2);
        due("3: open already, right", v.unlock(7), -5);
        due("3: open already, wrong", v.unlock(8), -5);
        v.addKey(8);
        v.addKey(MIN);
        v.addKey(MAX);
        v.write(3, 3, 33);
        int[] passphrases = {7, 8, MIN, MAX};
        for (int slot = 0; slot < 4; slot++) {
            v.lock();
            due("3: the slot is answered", v.unlock(passphrases[slot]), slot);
            due("3: every passphrase opens the contents", v.read(3, 3), 33);
        }
        v.removeKey(2);
        v.lock();
        due("3: a removed one", v.unlock(MIN), -4);
        due("3: 0 is in no empty slot", v.unlock(0), -4);
    }

    // 4
    private static void lock() {
        SealedVolume v = open();
        v.write(1, 2, 3);
        due("4: was open", v.lock(), 1);
        due("4: locked", v.state(), 1);
        due("4: was locked", v.lock(), 0);
        due("4: locked still", v.state(), 1);
        v.unlock(7);
        due("4: contents stay", v.read(1, 2), 3);
        v.renew(5);
        v.lock();
        due("4: renewing stays", v.toRenew(), 7);
    }

    // 5
    private static void state() {
        SealedVolume v = new SealedVolume();
        due("5: none", v.state(), 0);
        v.format(1);
        due("5: locked", v.state(), 1);
        v.unlock(1);
        due("5: open", v.state(), 2);
        v.crash(0);
        due("5: locked by a crash", v.state(), 1);
    }

    // 6
    private static void read() {
        SealedVolume v = open();
        v.write(0, 0, MIN);
        v.write(11, 7, MAX);
        v.write(5, 3, -9);
        due("6: first cell", v.read(0, 0), MIN);
        due("6: last cell", v.read(11, 7), MAX);
        due("6: some cell", v.read(5, 3), -9);
        due("6: its neighbour", v.read(5, 4), 0);
        for (int sector : NOT_SECTORS) {
            due("6: sector " + sector, v.read(sector, 0), 0);
        }
        for (int cell : NOT_CELLS) {
            due("6: cell " + cell, v.read(0, cell), 0);
            due("6: cell " + cell + " of 5", v.read(5, cell), 0);
        }
        v.fill(4, 1, 1);
        due("6: cell 8 is not the next sector's", v.read(3, 8), 0);
        due("6: cell -1 is not the last sector's", v.read(5, -1), 0);
        v.damage(5, 1);
        due("6: damaged", v.read(5, 3), 0);
        v.lock();
        due("6: locked", v.read(11, 7), 0);
    }

    // 7
    private static void write() {
        SealedVolume v = open();
        due("7: first", v.write(0, 0, 1), 0);
        due("7: last", v.write(11, 7, -1), 0);
        due("7: again", v.write(0, 0, 2), 0);
        due("7: holds", v.read(0, 0), 2);
        due("7: the last holds", v.read(11, 7), -1);
        for (int cell = 0; cell < 8; cell++) {
            v.write(6, cell, 10 * cell);
        }
        for (int cell = 0; cell < 8; cell++) {
            due("7: cells of a sector are apart", v.read(6, cell), 10 * cell);
        }
        for (int sector : NOT_SECTORS) {
            due("7: sector " + sector, v.write(sector, 0, 5), -1);
        }
        for (int cell : NOT_CELLS) {
            due("7: cell " + cell, v.write(5, cell, 5), -1);
        }
        v.damage(6, 3);
        due("7: damaged", v.write(6, 0, 5), -10);
        due("7: damaged still", v.check(6), -10);
        v.lock();
        due("7: locked", v.write(0, 0, 5), -3);
        due("7: locked and damaged", v.write(6, 0, 5), -3);
        v.unlock(7);
        due("7: locked write changed nothing", v.read(0, 0), 2);
    }

    // 8
    private static void fill() {
        SealedVolume v = open();
        due("8: fill", v.fill(2, 10, -3), 0);
        for (int cell = 0; cell < 8; cell++) {
            due("8: cell", v.read(2, cell), 10 - 3 * cell);
        }
        due("8: wrapping", v.fill(11, MAX, MAX), 0);
        int due = MAX;
        for (int cell = 0; cell < 8; cell++) {
            due("8: wrapped cell", v.read(11, cell), due);
            due += MAX;
        }
        due("8: the neighbours are as before", v.read(1, 7), 0);
        due("8: the neighbours are as before", v.read(3, 0), 0);
        v.damage(2, 5);
        due("8: was damaged", v.fill(2, 1, 0), 1);
        due("8: sound then", v.check(2), 0);
        due("8: filled", v.read(2, 7), 1);
        due("8: was sound", v.fill(2, 1, 0), 0);
        for (int sector : NOT_SECTORS) {
            due("8: sector " + sector, v.fill(sector, 5, 5), -1);
        }
        v.damage(2, 5);
        v.lock();
        due("8: locked", v.fill(2, 5, 5), -3);
        v.unlock(7);
        due("8: locked fill mended nothing", v.check(2), -10);
    }

    // 9
    private static void check() {
        SealedVolume v = open();
        v.damage(0, 0);
        v.damage(11, 0);
        for (int sector = 0; sector < 12; sector++) {
            due("9: sector " + sector, v.check(sector), sector == 0 || sector == 11 ? -10 : 0);
        }
        for (int sector : NOT_SECTORS) {
            due("9: sector " + sector, v.check(sector), -1);
        }
        v.lock();
        due("9: locked", v.check(1), -3);
        due("9: locked and damaged", v.check(0), -3);
    }

    // 10
    private static void digest() {
        SealedVolume v = open();
        int sum = 0;
        for (int sector = 0; sector < 12; sector++) {
            for (int cell = 0; cell < 8; cell++) {
                int value = 1234567891 * (sector + 1) + 987654321 * cell;
                v.write(sector, cell, value);
                sum += (8 * sector + cell + 1) * value;
                due("10: digest", v.digest(), sum);
            }
        }
        int without = sum;
        for (int cell = 0; cell < 8; cell++) {
            without -= (8 * 5 + cell + 1) * v.read(5, cell);
        }
        v.damage(5, 9);
        due("10: without the damaged sector", v.digest(), without);
        v.lock();
        due("10: locked", v.digest(), 0);
        SealedVolume w = open();
        w.write(0, 0, 5);
        due("10: the first cell counts once", w.digest(), 5);
        w.write(11, 7, 1);
        due("10: the last cell counts 96 times", w.digest(), 101);
    }

    // 11
    private static void addKey() {
        SealedVolume v = open();
        due("11: its own", v.addKey(7), -6);
        due("11: slot 1", v.addKey(0), 1);
        due("11: 0 is there then", v.addKey(0), -6);
        due("11: slot 2", v.addKey(MIN), 2);
        due("11: slot 3", v.addKey(MAX), 3);
        due("11: full", v.addKey(1), -7);
        due("11: there and full", v.addKey(MAX), -6);
        due("11: all slots", v.slots(), 15);
        v.removeKey(2);
        v.removeKey(0);
        due("11: the least empty one", v.addKey(5), 0);
        due("11: then the next", v.addKey(6), 2);
        due("11: open still", v.state(), 2);
        v.lock();
        due("11: locked", v.addKey(99), -3);
        due("11: the new one opens", v.unlock(6), 2);
    }

    // 12
    private static void removeKey() {
        SealedVolume v = open();
        due("12: the last", v.removeKey(0), -8);
        due("12: empty", v.removeKey(1), -2);
        due("12: empty 3", v.removeKey(3), -2);
        for (int slot : NOT_SLOTS) {
            due("12: slot " + slot, v.removeKey(slot), -1);
        }
        v.addKey(8);
        v.addKey(9);
        v.addKey(10);
        due("12: three left", v.removeKey(3), 3);
        due("12: two left", v.removeKey(0), 2);
        due("12: open still", v.state(), 2);
        due("12: gone", v.slotOf(7), -4);
        due("12: empty now", v.removeKey(0), -2);
        due("12: one left", v.removeKey(1), 1);
        due("12: the last one", v.removeKey(2), -8);
        due("12: slots", v.slots(), 4);
        v.lock();
        due("12: locked", v.removeKey(2), -3);
        due("12: a removed one opens nothing", v.unlock(7), -4);
        due("12: the one left does", v.unlock(9), 2);
    }

    // 13
    private static void changeKey() {
        SealedVolume v = open();
        v.write(2, 2, 22);
        v.addKey(8);
        due("13: the same", v.changeKey(0, 7), 0);
        due("13: another's", v.changeKey(0, 8), -6);
        due("13: another's, the other way", v.changeKey(1, 7), -6);
        due("13: a new one", v.changeKey(0, -5), 1);
        due("13: the old one is gone", v.slotOf(7), -4);
        due("13: the new one is there", v.slotOf(-5), 0);
        due("13: the old one is free", v.changeKey(1, 7), 1);
        due("13: empty", v.changeKey(2, 1), -2);
        due("13: empty, another's", v.changeKey(3, 7), -2);
        due("13: slots", v.slots(), 3);
        for (int slot : NOT_SLOTS) {
            due("13: slot " + slot, v.changeKey(slot, 1), -1);
        }
        v.lock();
        due("13: locked", v.changeKey(0, 1), -3);
        due("13: the old one opens nothing", v.unlock(8), -4);
        due("13: the new one opens", v.unlock(7), 1);
        due("13: the contents", v.read(2, 2), 22);
        v.lock();
        due("13: so does the other", v.unlock(-5), 0);
        due("13: the same contents", v.read(2, 2), 22);
    }

    // 14
    private static void slots() {
        SealedVolume v = new SealedVolume();
        due("14: none", v.slots(), 0);
        v.format(1);
        due("14: locked", v.slots(), 1);
        v.unlock(1);
        v.addKey(2);
        due("14: two", v.slots(), 3);
        v.addKey(3);
        v.addKey(4);
        due("14: four", v.slots(), 15);
        v.removeKey(1);
        due("14: three", v.slots(), 13);
        v.removeKey(0);
        v.removeKey(2);
        due("14: the highest alone", v.slots(), 8);
    }

    // 15
    private static void slotOf() {
        SealedVolume v = new SealedVolume();
        due("15: none", v.slotOf(1), -2);
        v.format(1);
        due("15: locked", v.slotOf(1), 0);
        due("15: locked, wrong", v.slotOf(2), -4);
        due("15: 0 is in no empty slot", v.slotOf(0), -4);
        due("15: locked still", v.state(), 1);
        v.unlock(1);
        v.write(4, 4, 44);
        v.addKey(MAX);
        v.addKey(MIN);
        v.addKey(0);
        due("15: slot 1", v.slotOf(MAX), 1);
        due("15: slot 2", v.slotOf(MIN), 2);
        due("15: slot 3", v.slotOf(0), 3);
        due("15: in none", v.slotOf(-1), -4);
        due("15: contents are as before", v.read(4, 4), 44);
        // Passphrases that differ in one bit are the likeliest to be taken for one another.
        for (int bit = 0; bit < 32; bit++) {
            due("15: near to 0", v.slotOf(1 << bit), 1 << bit == 1 ? 0 : 1 << bit == MIN ? 2 : -4);
        }
    }

    // 16
    private static void renew() {
        SealedVolume v = open();
        due("16: begins, none renewed", v.renew(0), 12);
        due("16: being renewed", v.toRenew(), 12);
        due("16: below 1", v.renew(-1), 12);
        due("16: least int", v.renew(MIN), 12);
        due("16: one", v.renew(1), 11);
        due("16: five", v.renew(5), 6);
        due("16: none", v.renew(0), 6);
        due("16: all but one", v.renew(5), 1);
        due("16: the last", v.renew(1), 0);
        due("16: ended", v.toRenew(), 0);
        due("16: begins anew", v.renew(3), 9);
        due("16: more than are left", v.renew(10), 0);
        due("16: all at once", v.renew(12), 0);
        due("16: greatest int", v.renew(MAX), 0);
        due("16: below 1 begins too", v.renew(-7), 12);
        v.renew(4);
        v.lock();
        due("16: locked", v.renew(1), -3);
        due("16: locked renew changed nothing", v.toRenew(), 8);
        v.unlock(7);
        due("16: goes on", v.renew(1), 7);
    }

    private static void renewKeepsContents() {
        SealedVolume v = open();
        for (int sector = 0; sector < 12; sector++) {
            v.fill(sector, 1000 * sector + 1, 17);
        }
        v.damage(3, 40);
        v.damage(9, 270);
        int before = v.digest();
        for (int round = 0; round < 3; round++) {
            for (int left = 12; left > 0; left--) {
                due("16: one more", v.renew(1), left - 1);
                due("16: cells hold", v.digest(), before);
                due("16: 3 is damaged", v.check(3), -10);
                due("16: 9 is damaged", v.check(9), -10);
                due("16: 3 is busy", v.damage(3, 1), -5);
            }
        }
        v.renew(6);
        due("16: write into a renewed sector", v.write(2, 0, 5), 0);
        due("16: write into one that is not", v.write(8, 0, 6), 0);
        due("16: mend a renewed one", v.fill(3, 1, 1), 1);
        due("16: mend one that is not", v.fill(9, 2, 2), 1);
        v.lock();
        v.unlock(7);
        v.renew(6);
        due("16: holds", v.read(2, 0), 5);
        due("16: holds", v.read(8, 0), 6);
        due("16: holds", v.read(3, 7), 8);
        due("16: holds", v.read(9, 7), 16);
        due("16: holds what it held", v.read(8, 7), 8001 + 119);
        due("16: passphrase as before", v.slotOf(7), 0);
    }

    // 17
    private static void toRenew() {
        SealedVolume v = locked();
        due("17: not being renewed", v.toRenew(), 0);
        v.unlock(7);
        v.renew(2);
        due("17: ten", v.toRenew(), 10);
        v.lock();
        due("17: locked", v.toRenew(), 10);
        v.format(1);
        due("17: a new volume", v.toRenew(), 0);
    }

    // 18
    private static void saveSlots() {
        SealedVolume v = locked();
        due("18: locked", v.saveSlots(), 1);
        due("18: locked still", v.state(), 1);
        v.unlock(7);
        v.addKey(8);
        v.addKey(9);
        due("18: open", v.saveSlots(), 3);
        due("18: open still", v.state(), 2);
        v.removeKey(0);
        due("18: a later one takes its place", v.saveSlots(), 2);
        v.changeKey(1, 1);
        v.restoreSlots();
        due("18: the later one is restored", v.slots(), 6);
        due("18: and its passphrases", v.slotOf(8), 1);
        v.unlock(8);
        v.renew(1);
        due("18: being renewed", v.saveSlots(), 2);
    }

    // 19
    private static void restoreSlots() {
        SealedVolume v = open();
        due("19: no copy", v.restoreSlots(), -2);
        due("19: open still", v.state(), 2);
        v.addKey(8);
        v.write(6, 6, 66);
        v.saveSlots();
        v.addKey(9);
        v.changeKey(0, 10);
        v.removeKey(1);
        due("19: restored", v.restoreSlots(), 2);
        due("19: locked", v.state(), 1);
        due("19: slots", v.slots(), 3);
        due("19: slot 0", v.slotOf(7), 0);
        due("19: slot 1", v.slotOf(8), 1);
        due("19: slot 2", v.slotOf(9), -4);
        due("19: the changed one", v.unlock(10), -4);
        due("19: opens", v.unlock(8), 1);
        due("19: the contents", v.read(6, 6), 66);
        v.removeKey(1);
        v.lock();
        due("19: the copy stays, and a locked volume will do", v.restoreSlots(), 2);
        v.damage(6, 6);
        v.unlock(7);
        due("19: damage has nothing to do with it", v.restoreSlots(), 2);
        v.unlock(7);
        due("19: nor does it mend", v.check(6), -10);
    }

    private static void restoreSlotsStale() {
        SealedVolume v = open();
        v.saveSlots();
        v.renew(0);
        due("19: begun since, none renewed", v.restoreSlots(), -9);
        due("19: open still", v.state(), 2);
        v.renew(12);
        due("19: begun and ended since", v.restoreSlots(), -9);
        due("19: taken after", v.saveSlots(), 1);
        due("19: is of use", v.restoreSlots(), 1);
        v.unlock(7);
        v.renew(4);
        v.saveSlots();
        due("19: taken while being renewed, which goes on", v.restoreSlots(), -9);
        v.lock();
        due("19: the same, locked", v.restoreSlots(), -9);
        v.unlock(7);
        v.renew(8);
        due("19: taken while being renewed, which has ended", v.restoreSlots(), -9);
        v.saveSlots();
        due("19: a refused renew begins nothing", v.restoreSlots(), 1);
        due("19: renew is refused", v.renew(1), -3);
        due("19: so the copy is good", v.restoreSlots(), 1);
        v.unlock(7);
        v.renew(3);
        v.format(7);
        due("19: none after format, not stale", v.restoreSlots(), -2);
        v.saveSlots();
        due("19: a new volume's copy", v.restoreSlots(), 1);
        SealedVolume w = open();
        w.renew(1);
        due("19: no copy comes before being renewed", w.restoreSlots(), -2);
        w.renew(11);
        w.saveSlots();
        due("19: a renewing that ended before", w.restoreSlots(), 1);
    }

    // 20
    private static void damage() {
        SealedVolume v = locked();
        due("20: locked", v.damage(0, 0), 0);
        due("20: again", v.damage(0, 0), -5);
        due("20: again elsewhere", v.damage(0, 1), -5);
        due("20: last sector", v.damage(11, -1), 0);
        for (int sector : NOT_SECTORS) {
            due("20: sector " + sector, v.damage(sector, 0), -1);
        }
        due("20: locked still", v.state(), 1);
        v.unlock(7);
        due("20: damaged", v.check(0), -10);
        due("20: damaged", v.check(11), -10);
        due("20: the next one is not", v.check(1), 0);
        due("20: open", v.damage(5, MIN), 0);
        due("20: open still", v.state(), 2);
        due("20: damaged", v.check(5), -10);
        v.fill(5, 0, 0);
        due("20: mended, so again", v.damage(5, MIN), 0);
    }

    private static void damageAnyPlace() {
        int[] far = {MIN, MIN + 1, -288, -289, -1, 288, 289, 12345678, MAX - 1, MAX};
        for (int i = 0; i < 600 + far.length; i++) {
            int place = i < 600 ? i - 300 : far[i - 600];
            SealedVolume v = open();
            v.fill(7, place, 31);
            int before = v.read(8, 0);
            due("20: place " + place, v.damage(7, place), 0);
            due("20: seen at " + place, v.check(7), -10);
            due("20: not read at " + place, v.read(7, 1), 0);
            v.renew(8);
            due("20: seen after renewing at " + place, v.check(7), -10);
            for (int sector = 0; sector < 12; sector++) {
                due("20: sector " + sector, v.check(sector), sector == 7 ? -10 : 0);
            }
            due("20: the next one reads", v.read(8, 0), before);
        }
    }

    // 21
    private static void crash() {
        SealedVolume v = locked();
        due("21: locked", v.crash(3), 0);
        due("21: locked still", v.state(), 1);
        v.unlock(7);
        due("21: open, not being renewed", v.crash(3), 0);
        due("21: locked then", v.state(), 1);
        v.unlock(7);
        v.renew(5);
        due("21: being renewed", v.crash(4), 7);
        due("21: locked then", v.state(), 1);
        due("21: seven left", v.toRenew(), 7);
        due("21: locked, being renewed", v.crash(4), 7);
        v.unlock(7);
        due("21: goes on", v.renew(1), 6);
        v.renew(6);
        v.unlock(7);
        due("21: ended", v.crash(4), 0);
        v.unlock(7);
        v.renew(0);
        due("21: none renewed yet", v.crash(MAX), 12);
    }

    private static void crashKeepsContents() {
        int[] far = {MIN, -1, 100, MAX};
        for (int i = 0; i < 20 + far.length; i++) {
            int steps = i < 20 ? i : far[i - 20];
            SealedVolume v = open();
            for (int sector = 0; sector < 12; sector++) {
                v.fill(sector, sector + 1, 1000);
            }
            v.damage(4, 8);
            int before = v.digest();
            for (int done = 0; done < 12; done++) {
                v.renew(done == 0 ? 0 : 1);
                due("21: crash(" + steps + ")", v.crash(steps), 12 - done);
                due("21: opens", v.unlock(7), 0);
                due("21: cells hold", v.digest(), before);
                due("21: damage as before", v.check(4), -10);
                due("21: no other", v.check(done), done == 4 ? -10 : 0);
            }
            v.write(11, 0, 5);
            due("21: the last one is renewed", v.renew(1), 0);
            due("21: what was written since the crash holds", v.read(11, 0), 5);
            due("21: and what was not", v.read(11, 7), 7012);
        }
    }

    // 22
    private static void faults() {
        SealedVolume v = new SealedVolume();
        due("22: none", v.faults(), 0);
        v.format(1);
        due("22: locked", v.faults(), 0);
        due("22: wrong passphrase", v.unlock(2), -4);
        due("22: after it", v.faults(), 0);
        v.unlock(1);
        due("22: open", v.faults(), 0);
        v.damage(3, 3);
        due("22: damaged", v.faults(), 0);
        for (int i = 0; i < 13; i++) {
            v.renew(1);
            due("22: being renewed", v.faults(), 0);
            v.crash(i);
            due("22: crashed", v.faults(), 0);
            v.unlock(1);
        }
        v.addKey(2);
        v.removeKey(0);
        due("22: removed", v.faults(), 0);
        v.lock();
        due("22: locked again", v.faults(), 0);
    }
}
