/** The boundary cases of promises 11 to 15: slots and passphrases. */
public final class SlotBoundariesTest {
    private static final String NOT_OPEN = "volume is not open (or not there): LOCKED";
    private static final int NEW = 200;
    private static final Sentences S = new Sentences();

    public static void main(String[] args) {
        addKey();
        removeKey();
        changeKey();
        slots();
        slotOf();
        S.end();
    }

    private static SealedVolume lockedWithSlots(int bits) {
        SealedVolume v = Volumes.withSlots(bits);
        v.lock();
        return v;
    }

    /** Of the slots of these bits, just these open the volume. */
    private static void holds(SealedVolume v, int bits) {
        S.due("slots", v.slots(), bits);
        for (int slot = 0; slot < 4; slot++) {
            int due = Volumes.has(bits, slot) ? slot : -4;
            S.due("slotOf", v.slotOf(Volumes.passphraseOf(slot)), due);
        }
    }

    // Promise 11

    private static void addKey() {
        S.test(11, "Puts a further passphrase into the least empty slot", "every set of slots", () -> {
            for (int bits = 1; bits < 15; bits++) {
                int least = Integer.numberOfTrailingZeros(~bits);
                SealedVolume v = Volumes.withSlots(bits);
                S.due("addKey, slots " + bits, v.addKey(NEW), least);
                S.due("slots, before " + bits, v.slots(), bits | 1 << least);
                S.due("slotOf, slots " + bits, v.slotOf(NEW), least);
                v.lock();
                S.due("unlock, slots " + bits, v.unlock(NEW), least);
            }
        });
        S.test(11, "Puts a further passphrase into the least empty slot", "the others keep theirs", () -> {
            SealedVolume v = Volumes.withSlots(10);
            v.addKey(NEW);
            S.due("slot 1", v.slotOf(Volumes.passphraseOf(1)), 1);
            S.due("slot 3", v.slotOf(Volumes.passphraseOf(3)), 3);
        });
        S.test(11, "The " + NOT_OPEN, "locked", () -> {
            SealedVolume v = Volumes.locked();
            S.due("addKey", v.addKey(NEW), -3);
            S.due("slots", v.slots(), 1);
        });
        S.test(11, "The " + NOT_OPEN, "not there", () -> S.due("addKey", Volumes.none().addKey(NEW), -3));
        S.test(11, "a slot has it: EXISTS", "each slot of every set of slots", () -> {
            for (int bits = 1; bits < 16; bits++) {
                SealedVolume v = Volumes.withSlots(bits);
                for (int slot = 0; slot < 4; slot++) {
                    if (Volumes.has(bits, slot)) {
                        S.due("addKey, slots " + bits, v.addKey(Volumes.passphraseOf(slot)), -6);
                    }
                }
                S.due("slots", v.slots(), bits);
            }
        });
        S.test(11, "a slot has it: EXISTS", "not one that was removed or changed", () -> {
            SealedVolume v = Volumes.withSlots(7);
            v.removeKey(2);
            S.due("removed", v.addKey(Volumes.passphraseOf(2)), 2);
            v.changeKey(0, NEW);
            S.due("changed", v.addKey(Volumes.passphraseOf(0)), 3);
        });
        S.test(11, "no slot is empty: FULL", "any int", () -> {
            SealedVolume v = Volumes.withSlots(15);
            for (int passphrase : Volumes.INTS) {
                S.due("addKey(" + passphrase + ")", v.addKey(passphrase), -7);
            }
            holds(v, 15);
        });
        S.test(11, "no slot is empty: FULL", "until one is emptied", () -> {
            for (int slot = 0; slot < 4; slot++) {
                SealedVolume v = Volumes.withSlots(15);
                v.removeKey(slot);
                S.due("addKey", v.addKey(NEW), slot);
                S.due("again", v.addKey(NEW + 1), -7);
            }
        });
    }

    // Promise 12

    private static void removeKey() {
        S.test(12, "Empties a slot", "each slot of every set of slots", () -> {
            for (int bits = 1; bits < 16; bits++) {
                for (int slot = 0; slot < 4; slot++) {
                    if (Volumes.has(bits, slot) && Integer.bitCount(bits) > 1) {
                        SealedVolume v = Volumes.withSlots(bits);
                        v.removeKey(slot);
                        holds(v, bits & ~(1 << slot));
                        v.lock();
                        S.due("unlock", v.unlock(Volumes.passphraseOf(slot)), -4);
                    }
                }
            }
        });
        S.test(12, "slot is not good: BAD", "too small, too large", () -> {
            SealedVolume v = Volumes.withSlots(15);
            for (int slot : Volumes.NOT_SLOTS) {
                S.due("removeKey(" + slot + ")", v.removeKey(slot), -1);
            }
            holds(v, 15);
        });
        S.test(12, "the " + NOT_OPEN, "locked", () -> {
            SealedVolume v = lockedWithSlots(15);
            for (int slot = 0; slot < 4; slot++) {
                S.due("removeKey", v.removeKey(slot), -3);
            }
            holds(v, 15);
        });
        S.test(12, "the " + NOT_OPEN, "not there", () -> S.due("removeKey", Volumes.none().removeKey(0), -3));
        S.test(12, "the slot is empty: NONE", "each empty slot of every set of slots", () -> {
            for (int bits = 1; bits < 16; bits++) {
                SealedVolume v = Volumes.withSlots(bits);
                for (int slot = 0; slot < 4; slot++) {
                    if (!Volumes.has(bits, slot)) {
                        S.due("removeKey, slots " + bits, v.removeKey(slot), -2);
                    }
                }
                holds(v, bits);
            }
        });
        S.test(12, "all others are empty: LAST", "each slot alone", () -> {
            for (int slot = 0; slot < 4; slot++) {
                SealedVolume v = Volumes.withSlots(1 << slot);
                S.due("removeKey", v.removeKey(slot), -8);
                holds(v, 1 << slot);
                v.addKey(NEW);
                S.due("not the last any more", v.removeKey(slot), 1);
            }
        });
        S.test(12, "Else answers how many slots have passphrases then", "each slot of every set of slots", () -> {
            for (int bits = 1; bits < 16; bits++) {
                for (int slot = 0; slot < 4; slot++) {
                    int left = Integer.bitCount(bits) - 1;
                    if (Volumes.has(bits, slot) && left > 0) {
                        S.due("slots " + bits, Volumes.withSlots(bits).removeKey(slot), left);
                    }
                }
            }
        });
        S.test(12, "Else answers how many slots have passphrases then", "the one that opened the volume", () -> {
            SealedVolume v = Volumes.withSlots(3);
            v.write(0, 0, 5);
            S.due("removeKey", v.removeKey(0), 1);
            S.due("open still", v.read(0, 0), 5);
        });
    }

    // Promise 13

    private static void changeKey() {
        S.test(13, "Puts a passphrase into a slot in place of the one that is there", "each slot, any int", () -> {
            for (int slot = 0; slot < 4; slot++) {
                for (int passphrase : Volumes.INTS) {
                    SealedVolume v = Volumes.withSlots(15);
                    v.write(11, 7, 5);
                    S.due("changeKey", v.changeKey(slot, passphrase), 1);
                    S.due("slots", v.slots(), 15);
                    v.lock();
                    S.due("unlock with the old one", v.unlock(Volumes.passphraseOf(slot)), -4);
                    S.due("unlock with the new one", v.unlock(passphrase), slot);
                    S.due("read", v.read(11, 7), 5);
                }
            }
        });
        S.test(13, "slot is not good: BAD", "too small, too large", () -> {
            SealedVolume v = Volumes.withSlots(15);
            for (int slot : Volumes.NOT_SLOTS) {
                S.due("changeKey(" + slot + ")", v.changeKey(slot, NEW), -1);
            }
            holds(v, 15);
        });
        S.test(13, "the " + NOT_OPEN, "locked", () -> {
            SealedVolume v = lockedWithSlots(15);
            for (int slot = 0; slot < 4; slot++) {
                S.due("changeKey", v.changeKey(slot, NEW), -3);
                S.due("to its own", v.changeKey(slot, Volumes.passphraseOf(slot)), -3);
            }
            holds(v, 15);
        });
        S.test(13, "the " + NOT_OPEN, "not there", () -> S.due("changeKey", Volumes.none().changeKey(0, NEW), -3));
        S.test(13, "the slot is empty: NONE", "each empty slot of every set of slots", () -> {
            for (int bits = 1; bits < 16; bits++) {
                SealedVolume v = Volumes.withSlots(bits);
                for (int slot = 0; slot < 4; slot++) {
                    if (!Volumes.has(bits, slot)) {
                        S.due("changeKey, slots " + bits, v.changeKey(slot, NEW), -2);
                        S.due("to what it had", v.changeKey(slot, Volumes.passphraseOf(slot)), -2);
                    }
                }
                holds(v, bits);
            }
        });
        S.test(13, "another slot has the passphrase: EXISTS", "each slot, each other one", () -> {
            SealedVolume v = Volumes.withSlots(15);
            for (int slot = 0; slot < 4; slot++) {
                for (int other = 0; other < 4; other++) {
                    if (other != slot) {
                        S.due("changeKey", v.changeKey(slot, Volumes.passphraseOf(other)), -6);
                    }
                }
            }
            holds(v, 15);
        });
        S.test(13, "another slot has the passphrase: EXISTS", "not one that was removed", () -> {
            SealedVolume v = Volumes.withSlots(3);
            S.due("changeKey", v.changeKey(0, Volumes.passphraseOf(2)), 1);
            S.due("slotOf", v.slotOf(Volumes.passphraseOf(2)), 0);
        });
        S.test(13, "Else answers 1 if it is another one than before", "there and back", () -> {
            SealedVolume v = Volumes.open();
            S.due("there", v.changeKey(0, NEW), 1);
            S.due("back", v.changeKey(0, Volumes.OWN), 1);
            S.due("slotOf", v.slotOf(Volumes.OWN), 0);
            S.due("0 is another one too", v.changeKey(0, 0), 1);
        });
        S.test(13, "else 0", "each slot, which keeps its passphrase", () -> {
            SealedVolume v = Volumes.withSlots(15);
            for (int slot = 0; slot < 4; slot++) {
                S.due("changeKey", v.changeKey(slot, Volumes.passphraseOf(slot)), 0);
            }
            holds(v, 15);
        });
    }

    // Promise 14

    private static void slots() {
        S.test(14, "The slots that have passphrases: bit s for slot s", "every set of slots, open and locked", () -> {
            for (int bits = 1; bits < 16; bits++) {
                S.due("open", Volumes.withSlots(bits).slots(), bits);
                S.due("locked", lockedWithSlots(bits).slots(), bits);
            }
        });
        S.test(14, "0 if there is no volume", "a new object", () -> S.due("slots", Volumes.none().slots(), 0));
    }

    // Promise 15

    private static void slotOf() {
        S.test(15, "The slot that has a passphrase", "every set of slots, open and locked", () -> {
            for (int bits = 1; bits < 16; bits++) {
                holds(Volumes.withSlots(bits), bits);
                holds(lockedWithSlots(bits), bits);
            }
        });
        S.test(15, "The slot that has a passphrase", "any int", () -> {
            for (int passphrase : Volumes.INTS) {
                SealedVolume v = Volumes.open();
                v.addKey(passphrase);
                S.due("slotOf(" + passphrase + ")", v.slotOf(passphrase), 1);
            }
        });
        S.test(15, "There is no volume: NONE", "any int", () -> {
            for (int passphrase : Volumes.INTS) {
                S.due("slotOf(" + passphrase + ")", Volumes.none().slotOf(passphrase), -2);
            }
        });
        S.test(15, "no slot has it: WRONG", "any int", () -> {
            for (int passphrase : Volumes.INTS) {
                S.due("open", Volumes.withSlots(15).slotOf(passphrase), -4);
                S.due("locked", lockedWithSlots(15).slotOf(passphrase), -4);
            }
        });
        S.test(15, "no slot has it: WRONG", "one that the copy alone has", () -> {
            SealedVolume v = Volumes.withSlots(3);
            v.saveSlots();
            v.removeKey(1);
            S.due("slotOf", v.slotOf(Volumes.passphraseOf(1)), -4);
        });
    }
}
