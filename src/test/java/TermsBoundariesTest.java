import java.util.ArrayList;
import java.util.List;
import java.util.Set;
import java.util.TreeSet;
import java.util.function.Supplier;
import java.util.function.ToIntFunction;

/** The boundary cases of what the document says ahead of its promises, which holds for all of them. */
public final class TermsBoundariesTest {
    private static final Sentences S = new Sentences();

    public static void main(String[] args) {
        callsOfAnObject();
        numbers();
        slotsAndPassphrases();
        renewing();
        orderOfTests();
        refusedCalls();
        S.end();
    }

    // An object is used for at most 512 calls.

    private static void callsOfAnObject() {
        String words = "An object is used for at most 512 calls after it has been made";
        S.test(0, words, "510 formats", TermsBoundariesTest::manyFormats);
        S.test(0, words, "508 renewings", TermsBoundariesTest::manyRenewings);
        S.test(0, words, "508 writes", TermsBoundariesTest::manyWrites);
        S.test(0, words, "253 crashes", TermsBoundariesTest::manyCrashes);
        S.test(0, words, "508 changes of a passphrase", TermsBoundariesTest::manyChanges);
    }

    private static void manyFormats() {
        SealedVolume v = Volumes.none();
        for (int i = 0; i < 510; i++) {
            S.due("format " + i, v.format(i), 0);
        }
        S.due("call 511", v.unlock(509), 0);
        S.due("call 512", v.digest(), 0);
    }

    private static void manyRenewings() {
        SealedVolume v = Volumes.open();
        v.fill(11, 5, 6);
        for (int i = 0; i < 508; i++) {
            S.due("renewing " + i, v.renew(12), 0);
        }
        S.due("call 512", v.read(11, 7), 47);
    }

    private static void manyWrites() {
        SealedVolume v = Volumes.open();
        v.write(0, 0, 1);
        for (int i = 0; i < 508; i++) {
            S.due("write " + i, v.write(0, 7, i), 0);
        }
        S.due("call 512", v.digest(), 1 + 8 * 507);
    }

    private static void manyCrashes() {
        SealedVolume v = Volumes.open();
        v.fill(0, 3, 4);
        v.renew(0);
        for (int i = 0; i < 253; i++) {
            S.due("crash " + i, v.crash(i % 11), 12);
            S.due("unlock " + i, v.unlock(Volumes.OWN), 0);
        }
        S.due("call 511", v.toRenew(), 12);
        S.due("call 512", v.read(0, 7), 31);
    }

    private static void manyChanges() {
        SealedVolume v = Volumes.open();
        v.write(4, 4, 9);
        for (int i = 0; i < 508; i++) {
            S.due("change " + i, v.changeKey(0, 1000 + i), 1);
        }
        S.due("call 512", v.slotOf(1507), 0);
    }

    // Which sector, cell and slot is good.

    private static void numbers() {
        S.test(0, "twelve SECTORS 0 .. 11", "each of them is apart", TermsBoundariesTest::sectorsAreApart);
        S.test(0, "a sector is good if it is 0 .. 11", "too small, too large", TermsBoundariesTest::noGoodSector);
        S.test(0, "a sector is good if it is 0 .. 11", "the first and the last", TermsBoundariesTest::goodSectors);
        S.test(0, "of eight CELLS 0 .. 7 each", "each of them is apart", TermsBoundariesTest::cellsAreApart);
        S.test(0, "a cell if it is 0 .. 7", "too small, too large", TermsBoundariesTest::noGoodCell);
        S.test(0, "four SLOTS 0 .. 3", "a fifth passphrase has no place", () ->
            S.due("addKey", Volumes.withSlots(15).addKey(1), -7));
        S.test(0, "a slot if it is 0 .. 3", "too small, too large", TermsBoundariesTest::noGoodSlot);
        S.test(0, "a slot if it is 0 .. 3", "the first and the last", TermsBoundariesTest::goodSlots);
        S.test(0, "every cell an int", "the least and the greatest", TermsBoundariesTest::everyInt);
    }

    private static void sectorsAreApart() {
        for (int sector = 0; sector < 12; sector++) {
            SealedVolume v = Volumes.open();
            v.fill(sector, 1, 0);
            v.damage((sector + 1) % 12, 0);
            for (int other = 0; other < 12; other++) {
                S.due("read of " + other, v.read(other, 0), other == sector ? 1 : 0);
                S.due("check of " + other, v.check(other), other == (sector + 1) % 12 ? -10 : 0);
            }
        }
    }

    private static void noGoodSector() {
        SealedVolume v = Volumes.filled();
        for (int sector : Volumes.NOT_SECTORS) {
            S.due("read of " + sector, v.read(sector, 0), 0);
            S.due("write of " + sector, v.write(sector, 0, 1), -1);
            S.due("fill of " + sector, v.fill(sector, 1, 1), -1);
            S.due("check of " + sector, v.check(sector), -1);
            S.due("damage of " + sector, v.damage(sector, 0), -1);
        }
    }

    private static void goodSectors() {
        for (int sector : new int[] {0, 11}) {
            SealedVolume v = Volumes.open();
            S.due("write of " + sector, v.write(sector, 0, 5), 0);
            S.due("read of " + sector, v.read(sector, 0), 5);
            S.due("fill of " + sector, v.fill(sector, 6, 1), 0);
            S.due("check of " + sector, v.check(sector), 0);
            S.due("damage of " + sector, v.damage(sector, 0), 0);
        }
    }

    private static void cellsAreApart() {
        for (int cell = 0; cell < 8; cell++) {
            SealedVolume v = Volumes.open();
            S.due("write of " + cell, v.write(5, cell, 1), 0);
            for (int other = 0; other < 96; other++) {
                int due = other == 8 * 5 + cell ? 1 : 0;
                S.due("cell " + other % 8 + " of " + other / 8, v.read(other / 8, other % 8), due);
            }
        }
    }

    private static void noGoodCell() {
        SealedVolume v = Volumes.filled();
        for (int cell : Volumes.NOT_CELLS) {
            for (int sector = 0; sector < 12; sector++) {
                S.due("read of " + cell, v.read(sector, cell), 0);
                S.due("write of " + cell, v.write(sector, cell, 1), -1);
            }
        }
    }

    private static void noGoodSlot() {
        SealedVolume v = Volumes.withSlots(15);
        for (int slot : Volumes.NOT_SLOTS) {
            S.due("removeKey of " + slot, v.removeKey(slot), -1);
            S.due("changeKey of " + slot, v.changeKey(slot, 1), -1);
        }
        S.due("slots", v.slots(), 15);
    }

    private static void goodSlots() {
        for (int slot : new int[] {0, 3}) {
            SealedVolume v = Volumes.withSlots(15);
            S.due("changeKey of " + slot, v.changeKey(slot, 1), 1);
            S.due("removeKey of " + slot, v.removeKey(slot), 3);
        }
    }

    private static void everyInt() {
        for (int value : Volumes.INTS) {
            SealedVolume v = Volumes.open();
            for (int i = 0; i < 96; i++) {
                v.write(i / 8, i % 8, value);
            }
            v.lock();
            v.unlock(Volumes.OWN);
            v.renew(6);
            for (int i = 0; i < 96; i++) {
                S.due("cell " + i % 8 + " of " + i / 8, v.read(i / 8, i % 8), value);
            }
        }
    }

    // Slots.

    private static void slotsAndPassphrases() {
        S.test(0, "each of which is empty or has a PASSPHRASE, an int", "any int is a passphrase",
            TermsBoundariesTest::everyIntIsPassphrase);
        S.test(0, "each of which is empty or has a PASSPHRASE, an int", "an empty slot has none, not 0",
            TermsBoundariesTest::emptySlotHasNone);
        S.test(0, "no two slots have the same one", "neither by adding nor by changing nor by restoring",
            TermsBoundariesTest::noTwoTheSame);
        S.test(0, "At least one slot has one", "the last one stays, whichever it is",
            TermsBoundariesTest::oneSlotStays);
        S.test(0, "at first there is none", "no copy in a new volume", () ->
            S.due("restoreSlots", Volumes.open().restoreSlots(), -2));
    }

    private static void everyIntIsPassphrase() {
        for (int passphrase : Volumes.INTS) {
            SealedVolume v = Volumes.none();
            v.format(passphrase);
            S.due("unlock(" + passphrase + ")", v.unlock(passphrase), 0);
            v.changeKey(0, 77);
            S.due("addKey(" + passphrase + ")", v.addKey(passphrase), 1);
            v.lock();
            S.due("unlock(" + passphrase + ") as the second", v.unlock(passphrase), 1);
            for (int bit = 0; bit < 32; bit++) {
                S.due("slotOf with bit " + bit + " turned", v.slotOf(passphrase ^ 1 << bit), -4);
            }
        }
    }

    private static void emptySlotHasNone() {
        SealedVolume v = Volumes.withSlots(15);
        v.changeKey(1, 0);
        v.removeKey(1);
        S.due("slotOf of 0, which was there", v.slotOf(0), -4);
        v.lock();
        S.due("unlock of 0", v.unlock(0), -4);
        S.due("slotOf of 0 in a new volume", Volumes.locked().slotOf(0), -4);
        S.due("slotOf of 0 without a volume", Volumes.none().slotOf(0), -2);
    }

    private static void noTwoTheSame() {
        SealedVolume v = Volumes.withSlots(7);
        for (int slot = 0; slot < 3; slot++) {
            S.due("addKey", v.addKey(Volumes.passphraseOf(slot)), -6);
            S.due("changeKey", v.changeKey((slot + 1) % 3, Volumes.passphraseOf(slot)), -6);
        }
        v.saveSlots();
        v.removeKey(0);
        v.changeKey(2, Volumes.passphraseOf(0));
        v.restoreSlots();
        for (int slot = 0; slot < 3; slot++) {
            S.due("slotOf", v.slotOf(Volumes.passphraseOf(slot)), slot);
        }
        v.unlock(Volumes.passphraseOf(0));
        v.removeKey(0);
        S.due("it was in no second slot", v.slotOf(Volumes.passphraseOf(0)), -4);
    }

    private static void oneSlotStays() {
        for (int last = 0; last < 4; last++) {
            SealedVolume v = Volumes.withSlots(1 << last);
            for (int slot = 0; slot < 4; slot++) {
                S.due("removeKey(" + slot + ")", v.removeKey(slot), slot == last ? -8 : -2);
            }
            S.due("slots", v.slots(), 1 << last);
            v.lock();
            S.due("unlock", v.unlock(Volumes.passphraseOf(last)), last);
        }
    }

    // Renewing.

    private static void renewing() {
        S.test(0, "between the beginning and the end of that the volume is BEING RENEWED", "both ends",
            TermsBoundariesTest::beingRenewed);
        S.test(0, "It does not change what cells hold", "after every sector, twice over",
            TermsBoundariesTest::cellsStay);
        S.test(0, "nor which sectors are damaged", "one, all and none, after every sector, twice over",
            TermsBoundariesTest::damageStays);
    }

    private static void beingRenewed() {
        SealedVolume v = Volumes.open();
        S.due("before", v.toRenew(), 0);
        v.renew(0);
        S.due("at the beginning", v.toRenew(), 12);
        v.renew(11);
        S.due("before the end", v.toRenew(), 1);
        v.renew(1);
        S.due("at the end", v.toRenew(), 0);
    }

    private static void cellsStay() {
        for (int done = 1; done <= 24; done++) {
            SealedVolume v = Volumes.filled();
            for (int i = 0; i < done; i++) {
                v.renew(1);
            }
            for (int i = 0; i < 96; i++) {
                int due = Volumes.valueAt(i / 8, i % 8);
                S.due("after " + done + ", cell " + i, v.read(i / 8, i % 8), due);
            }
        }
    }

    private static void damageStays() {
        for (int damaged = -1; damaged <= 12; damaged++) {
            SealedVolume v = Volumes.filled();
            for (int sector = 0; sector < 12; sector++) {
                if (sector == damaged || damaged == 12) {
                    v.damage(sector, 31 * sector);
                }
            }
            for (int done = 1; done <= 24; done++) {
                v.renew(1);
                for (int sector = 0; sector < 12; sector++) {
                    int due = sector == damaged || damaged == 12 ? -10 : 0;
                    S.due("after " + done + ", sector " + sector, v.check(sector), due);
                }
            }
        }
    }

    // The tests of a method are made in the order named: a test for each two that can refuse the same call.

    private static void orderOfTests() {
        String words = "In every method the tests are made in the order named";
        Supplier<SealedVolume> lockedAndDamaged = () -> {
            SealedVolume v = Volumes.locked();
            v.damage(3, 3);
            return v;
        };
        Supplier<SealedVolume> openAndDamaged = () -> {
            SealedVolume v = Volumes.open();
            v.damage(3, 3);
            return v;
        };
        Supplier<SealedVolume> lockedAndFull = () -> {
            SealedVolume v = Volumes.withSlots(15);
            v.lock();
            return v;
        };
        order(words, "unlock: NONE, WRONG", -2, Volumes::none, v -> v.unlock(1));
        order(words, "unlock: BUSY, WRONG", -5, Volumes::open, v -> v.unlock(1));
        order(words, "write: BAD sector, LOCKED", -1, Volumes::locked, v -> v.write(12, 0, 1));
        order(words, "write: BAD cell, LOCKED", -1, Volumes::locked, v -> v.write(0, 8, 1));
        order(words, "write: BAD sector, not there", -1, Volumes::none, v -> v.write(-1, 0, 1));
        order(words, "write: BAD cell, not there", -1, Volumes::none, v -> v.write(0, -1, 1));
        order(words, "write: LOCKED, DAMAGED", -3, lockedAndDamaged, v -> v.write(3, 0, 1));
        order(words, "write: BAD cell, LOCKED, DAMAGED", -1, lockedAndDamaged, v -> v.write(3, 8, 1));
        order(words, "write: BAD cell, DAMAGED", -1, openAndDamaged, v -> v.write(3, 8, 1));
        order(words, "fill: BAD, LOCKED", -1, Volumes::locked, v -> v.fill(12, 1, 1));
        order(words, "fill: BAD, not there", -1, Volumes::none, v -> v.fill(-1, 1, 1));
        order(words, "check: BAD, LOCKED", -1, Volumes::locked, v -> v.check(12));
        order(words, "check: BAD, not there", -1, Volumes::none, v -> v.check(-1));
        order(words, "check: LOCKED, DAMAGED", -3, lockedAndDamaged, v -> v.check(3));
        order(words, "addKey: LOCKED, EXISTS", -3, Volumes::locked, v -> v.addKey(Volumes.OWN));
        order(words, "addKey: LOCKED, FULL", -3, lockedAndFull, v -> v.addKey(1));
        order(words, "addKey: LOCKED, EXISTS, FULL", -3, lockedAndFull, v -> v.addKey(103));
        order(words, "addKey: EXISTS, FULL", -6, () -> Volumes.withSlots(15), v -> v.addKey(103));
        order(words, "removeKey: BAD, LOCKED", -1, Volumes::locked, v -> v.removeKey(4));
        order(words, "removeKey: BAD, not there", -1, Volumes::none, v -> v.removeKey(-1));
        order(words, "removeKey: LOCKED, NONE", -3, Volumes::locked, v -> v.removeKey(1));
        order(words, "removeKey: LOCKED, LAST", -3, Volumes::locked, v -> v.removeKey(0));
        order(words, "removeKey: NONE, one slot alone taken", -2, Volumes::open, v -> v.removeKey(1));
        order(words, "changeKey: BAD, LOCKED", -1, Volumes::locked, v -> v.changeKey(4, 1));
        order(words, "changeKey: BAD, not there", -1, Volumes::none, v -> v.changeKey(-1, 1));
        order(words, "changeKey: BAD, EXISTS", -1, Volumes::open, v -> v.changeKey(4, Volumes.OWN));
        order(words, "changeKey: LOCKED, NONE", -3, Volumes::locked, v -> v.changeKey(1, 1));
        order(words, "changeKey: LOCKED, EXISTS", -3, lockedAndFull, v -> v.changeKey(0, 103));
        order(words, "changeKey: NONE, EXISTS", -2, Volumes::open, v -> v.changeKey(1, Volumes.OWN));
        order(words, "slotOf: NONE, WRONG", -2, Volumes::none, v -> v.slotOf(1));
        order(words, "restoreSlots: NONE, STALE", -2, () -> Volumes.toRenew(6), SealedVolume::restoreSlots);
        order(words, "damage: BAD, NONE", -1, Volumes::none, v -> v.damage(12, 0));
    }

    private static void order(String words, String edge, int due, Supplier<SealedVolume> made,
            ToIntFunction<SealedVolume> call) {
        S.test(0, words, edge, () -> S.due("the call", call.applyAsInt(made.get()), due));
    }

    // Refused calls and questions, each on an object whose twin is spared the call.

    private record Call(String name, String text, boolean isQuestion, ToIntFunction<SealedVolume> made) {
    }

    private static final String[] REFUSALS = {
        "unlock -2", "unlock -5", "unlock -4", "lock -2", "write -1", "write -3", "write -10", "fill -1", "fill -3",
        "check -1", "check -3", "check -10", "addKey -3", "addKey -6", "addKey -7",
        "removeKey -1", "removeKey -3", "removeKey -2", "removeKey -8",
        "changeKey -1", "changeKey -3", "changeKey -2", "changeKey -6", "slotOf -2", "slotOf -4", "renew -3",
        "saveSlots -2", "restoreSlots -2", "restoreSlots -9", "damage -1", "damage -2", "damage -5", "crash -2"};

    private static void refusedCalls() {
        String words = "A refused call (an answer below 0) changes nothing";
        Set<String> refused = new TreeSet<>();
        List<Supplier<SealedVolume>> states = states();
        for (Call call : calls()) {
            S.test(0, call.isQuestion() ? "Questions change nothing" : words, call.text(), () -> {
                for (int i = 0; i < states.size(); i++) {
                    int answer = call.made().applyAsInt(states.get(i).get());
                    if (answer < 0 && !isValue(call)) {
                        refused.add(call.name() + " " + answer);
                    }
                    if (answer < 0 || call.isQuestion()) {
                        S.yes("nothing changed in state " + i, changesNothing(call, states.get(i), true));
                        S.yes("nothing changed, unasked, in state " + i, changesNothing(call, states.get(i), false));
                    }
                }
            });
        }
        S.test(0, words, "every refusal of the document, and no other", () ->
            S.yes("refused: " + refused, refused.equals(new TreeSet<>(List.of(REFUSALS)))));
    }

    private static boolean changesNothing(Call call, Supplier<SealedVolume> state, boolean askFirst) {
        SealedVolume called = state.get();
        call.made().applyAsInt(called);
        SealedVolume spared = state.get();
        return Volumes.everything(called, askFirst).equals(Volumes.everything(spared, askFirst));
    }

    /** What a cell holds, and a sum over cells, may be below 0 without being a refusal. */
    private static boolean isValue(Call call) {
        return call.name().equals("read") || call.name().equals("digest");
    }

    private static List<Supplier<SealedVolume>> states() {
        List<Supplier<SealedVolume>> states = new ArrayList<>();
        states.add(Volumes::none);
        states.add(Volumes::open);
        states.add(() -> Volumes.withSlots(8));
        states.add(() -> Volumes.withSlots(10));
        for (int left : new int[] {0, 12, 6, 1}) {
            states.add(() -> rich(left));
        }
        states.add(() -> {
            SealedVolume v = rich(3);
            v.saveSlots();
            return v;
        });
        states.add(() -> {
            SealedVolume v = rich(3);
            v.saveSlots();
            v.renew(3);
            return v;
        });
        int opened = states.size();
        for (int i = 1; i < opened; i++) {
            Supplier<SealedVolume> state = states.get(i);
            states.add(() -> {
                SealedVolume v = state.get();
                v.lock();
                return v;
            });
        }
        return states;
    }

    /** An open volume, all slots taken, two sectors damaged, a copy taken before the slots were changed. */
    private static SealedVolume rich(int left) {
        SealedVolume v = Volumes.filled();
        v.addKey(8);
        v.addKey(9);
        v.saveSlots();
        v.changeKey(1, 10);
        v.addKey(0);
        v.damage(1, 1);
        v.damage(10, 300);
        if (left > 0) {
            v.renew(12 - left);
        }
        return v;
    }

    private static List<Call> calls() {
        List<Call> calls = new ArrayList<>();
        int[] sectors = {0, 1, 10, 11, -1, 12, Volumes.MIN, Volumes.MAX};
        int[] cells = {0, 7, -1, 8, Volumes.MIN, Volumes.MAX};
        int[] slots = {0, 1, 2, 3, -1, 4, 32, Volumes.MIN, Volumes.MAX};
        int[] passphrases = {Volumes.OWN, 8, 9, 10, 0, 101, 103, -1, Volumes.MIN, Volumes.MAX};
        questionCalls(calls, sectors, cells, passphrases);
        for (int sector : sectors) {
            for (int cell : cells) {
                calls.add(new Call("write", "write(" + sector + ", " + cell + ", 5)", false,
                    v -> v.write(sector, cell, 5)));
            }
            calls.add(new Call("fill", "fill(" + sector + ", 5, 6)", false, v -> v.fill(sector, 5, 6)));
            calls.add(new Call("damage", "damage(" + sector + ", 5)", false, v -> v.damage(sector, 5)));
        }
        for (int slot : slots) {
            calls.add(new Call("removeKey", "removeKey(" + slot + ")", false, v -> v.removeKey(slot)));
            for (int passphrase : passphrases) {
                calls.add(new Call("changeKey", "changeKey(" + slot + ", " + passphrase + ")", false,
                    v -> v.changeKey(slot, passphrase)));
            }
        }
        for (int passphrase : passphrases) {
            calls.add(new Call("unlock", "unlock(" + passphrase + ")", false, v -> v.unlock(passphrase)));
            calls.add(new Call("addKey", "addKey(" + passphrase + ")", false, v -> v.addKey(passphrase)));
        }
        for (int steps : new int[] {Volumes.MIN, -1, 0, 1, 12, Volumes.MAX}) {
            calls.add(new Call("renew", "renew(" + steps + ")", false, v -> v.renew(steps)));
            calls.add(new Call("crash", "crash(" + steps + ")", false, v -> v.crash(steps)));
        }
        calls.add(new Call("lock", "lock()", false, SealedVolume::lock));
        calls.add(new Call("saveSlots", "saveSlots()", false, SealedVolume::saveSlots));
        calls.add(new Call("restoreSlots", "restoreSlots()", false, SealedVolume::restoreSlots));
        return calls;
    }

    private static void questionCalls(List<Call> calls, int[] sectors, int[] cells, int[] passphrases) {
        calls.add(new Call("state", "state()", true, SealedVolume::state));
        calls.add(new Call("digest", "digest()", true, SealedVolume::digest));
        calls.add(new Call("slots", "slots()", true, SealedVolume::slots));
        calls.add(new Call("toRenew", "toRenew()", true, SealedVolume::toRenew));
        calls.add(new Call("faults", "faults()", true, SealedVolume::faults));
        for (int passphrase : passphrases) {
            calls.add(new Call("slotOf", "slotOf(" + passphrase + ")", true, v -> v.slotOf(passphrase)));
        }
        for (int sector : sectors) {
            calls.add(new Call("check", "check(" + sector + ")", true, v -> v.check(sector)));
            for (int cell : cells) {
                calls.add(new Call("read", "read(" + sector + ", " + cell + ")", true, v -> v.read(sector, cell)));
            }
        }
    }
}
