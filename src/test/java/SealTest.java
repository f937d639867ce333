import java.lang.reflect.Field;
import java.lang.reflect.Method;
import java.lang.reflect.Modifier;
import java.util.ArrayList;
import java.util.List;

/** What the document says the class is: contents that only a passphrase opens. Looks inside the object. */
public final class SealTest {
    private static final int SECRET = 0x5ec2e700;
    private static final int PASSPHRASE = 0x0fa55a11;
    private static final Checks CHECKS = new Checks();

    public static void main(String[] args) throws Exception {
        lockedHoldsNoSecret();
        lockedHoldsNoKey();
        passphrasesAskedForLeaveNothing();
        removedSlotIsErased();
        formatErases();
        sameContentsAreKeptOtherwise();
        keysAreWrappedOtherwise();
        damageTurnsOneBit();
        crashWritesAsTold();
        renewingWritesAnew();
        renewingGoesInOrder();
        cipherIsTheKnownOne();
        faultsAreFound();
        CHECKS.end();
    }

    private static SealedVolume secretive() {
        SealedVolume v = new SealedVolume();
        v.format(PASSPHRASE);
        v.unlock(PASSPHRASE);
        for (int sector = 0; sector < 12; sector++) {
            v.fill(sector, SECRET + sector * 8, 1);
        }
        v.addKey(PASSPHRASE + 1);
        v.saveSlots();
        return v;
    }

    /** Every way into the locked state, and every call that handles a passphrase there. */
    private static void lockedHoldsNoSecret() throws Exception {
        SealedVolume v = new SealedVolume();
        v.format(PASSPHRASE);
        noSecret("format", v);
        v = secretive();
        v.lock();
        noSecret("lock", v);
        v.unlock(PASSPHRASE + 2);
        noSecret("a wrong unlock", v);
        v.slotOf(PASSPHRASE);
        noSecret("slotOf", v);
        v.unlock(PASSPHRASE);
        v.read(3, 3);
        v.restoreSlots();
        noSecret("restoreSlots", v);
        v.unlock(PASSPHRASE);
        v.digest();
        v.renew(4);
        v.crash(5);
        noSecret("crash", v);
    }

    private static void noSecret(String after, SealedVolume v) throws Exception {
        for (int word : wordsOf(v)) {
            boolean cell = word >= SECRET && word < SECRET + 96;
            boolean passphrase = word >= PASSPHRASE && word <= PASSPHRASE + 2;
            CHECKS.yes("no secret in clear after " + after, !cell && !passphrase);
        }
    }

    /** The words of an open volume that a locked one no longer has: the key must be among them. */
    private static void lockedHoldsNoKey() throws Exception {
        SealedVolume v = secretive();
        int[] key = array(v, "key").clone();
        int[] wrapped = array(v, "slotWords").clone();
        for (int word : key) {
            CHECKS.yes("an open volume has the key", word != 0);
        }
        v.lock();
        v.unlock(PASSPHRASE);
        v.lock();
        v.slotOf(PASSPHRASE);
        for (int word : wordsOf(v)) {
            for (int i = 0; i < 8; i++) {
                CHECKS.yes("no word of the key", word != key[i]);
                CHECKS.yes("no word of what wraps it", word != (wrapped[8 + i] ^ key[i]));
            }
        }
        v.unlock(PASSPHRASE + 1);
        CHECKS.yes("another passphrase gives the same key", java.util.Arrays.equals(key, array(v, "key")));
    }

    private static void passphrasesAskedForLeaveNothing() throws Exception {
        for (int passphrase : new int[] {PASSPHRASE, 1}) {
            SealedVolume v = secretive();
            v.lock();
            v.slotOf(passphrase);
            for (int word : array(v, "stream")) {
                CHECKS.due("what slotOf(" + passphrase + ") made", word, 0);
            }
        }
        SealedVolume v = secretive();
        v.lock();
        v.unlock(1);
        for (int word : array(v, "stream")) {
            CHECKS.due("what a wrong passphrase gave", word, 0);
        }
    }

    private static void removedSlotIsErased() throws Exception {
        SealedVolume v = secretive();
        v.addKey(5);
        int[] before = array(v, "slotWords").clone();
        v.removeKey(2);
        int[] after = array(v, "slotWords");
        for (int i = 0; i < before.length; i++) {
            CHECKS.due("word " + i + " of the slots", after[i], i / 16 == 2 ? 0 : before[i]);
        }
    }

    private static void formatErases() throws Exception {
        SealedVolume v = secretive();
        v.renew(3);
        v.crash(9);
        int[][] before = {array(v, "kept").clone(), array(v, "slotWords").clone(), array(v, "copyWords").clone()};
        v.format(PASSPHRASE + 2);
        List<Integer> after = wordsOf(v);
        for (int[] words : before) {
            for (int word : words) {
                CHECKS.yes("no word of the former volume", word == 0 || !after.contains(word));
            }
        }
    }

    private static void sameContentsAreKeptOtherwise() throws Exception {
        SealedVolume v = secretive();
        v.fill(0, 0, 0);
        v.fill(1, 0, 0);
        int[] kept = array(v, "kept").clone();
        CHECKS.yes("in another sector", differences(kept, 0, kept, 18, 8) > 60);
        v.fill(0, 0, 0);
        CHECKS.yes("written again", differences(kept, 0, array(v, "kept"), 0, 8) > 60);
        SealedVolume first = new SealedVolume();
        first.format(1);
        kept = array(first, "kept").clone();
        SealedVolume second = new SealedVolume();
        second.format(2);
        CHECKS.yes("under another passphrase", differences(kept, 0, array(second, "kept"), 0, 8) > 60);
        first.format(1);
        CHECKS.yes("after another format", differences(kept, 0, array(first, "kept"), 0, 8) > 60);
    }

    /** One pad over the keys of two volumes would show how the keys differ. */
    private static void keysAreWrappedOtherwise() throws Exception {
        SealedVolume v = new SealedVolume();
        v.format(PASSPHRASE);
        v.unlock(PASSPHRASE);
        int[] pad = padOfSlot0(v);
        v.format(PASSPHRASE);
        v.unlock(PASSPHRASE);
        CHECKS.yes("another pad after another format", differences(pad, 0, padOfSlot0(v), 0, 8) > 60);
    }

    private static int[] padOfSlot0(SealedVolume open) throws Exception {
        int[] pad = array(open, "key").clone();
        for (int i = 0; i < 8; i++) {
            pad[i] ^= array(open, "slotWords")[8 + i];
        }
        return pad;
    }

    private static void damageTurnsOneBit() throws Exception {
        for (int place : new int[] {Integer.MIN_VALUE, -289, -288, -1, 288, Integer.MAX_VALUE}) {
            SealedVolume v = secretive();
            int[] before = array(v, "kept").clone();
            v.damage(11, place);
            CHECKS.yes("one bit at " + place, differences(before, 0, array(v, "kept"), 0, before.length) == 1);
        }
        boolean[] turned = new boolean[9 * 32];
        for (int place = 0; place < turned.length; place++) {
            SealedVolume v = secretive();
            int[] before = array(v, "kept").clone();
            v.damage(0, place);
            int[] after = array(v, "kept");
            CHECKS.yes("one bit", differences(before, 0, after, 0, before.length) == 1);
            for (int bit = 0; bit < turned.length; bit++) {
                turned[bit] |= ((before[bit / 32] ^ after[bit / 32]) >>> bit % 32 & 1) == 1;
            }
        }
        for (boolean bit : turned) {
            CHECKS.yes("place chooses among all bits of the sector", bit);
        }
    }

    private static void crashWritesAsTold() throws Exception {
        int[] steps = {Integer.MIN_VALUE, -1, 0, 1, 5, 8, 9, 10, Integer.MAX_VALUE};
        int[] written = {0, 0, 0, 1, 5, 8, 9, 9, 9};
        for (int i = 0; i < steps.length; i++) {
            SealedVolume v = secretive();
            v.renew(2);
            int[] before = array(v, "kept").clone();
            v.crash(steps[i]);
            int[] after = array(v, "kept");
            int changed = 0;
            for (int word = 0; word < before.length; word++) {
                changed += before[word] == after[word] ? 0 : 1;
            }
            CHECKS.due("words written by crash(" + steps[i] + ")", changed, written[i]);
        }
    }

    private static void renewingWritesAnew() throws Exception {
        SealedVolume v = secretive();
        int[] before = array(v, "kept").clone();
        v.renew(12);
        int[] after = array(v, "kept");
        for (int word : before) {
            boolean stays = false;
            for (int other : after) {
                stays |= word != 0 && word == other;
            }
            CHECKS.yes("no word stays as it was kept", !stays);
        }
    }

    /** One after the other, 0 first: no answer tells which sectors are left, only how many. */
    private static void renewingGoesInOrder() throws Exception {
        for (int steps = 0; steps <= 12; steps++) {
            SealedVolume v = secretive();
            int[] before = array(v, "kept").clone();
            v.renew(steps);
            for (int sector = 0; sector < 12; sector++) {
                boolean renewed = differences(before, 18 * sector, array(v, "kept"), 18 * sector, 18) > 0;
                CHECKS.yes("renew(" + steps + ") and sector " + sector, renewed == sector < steps);
            }
        }
    }

    /** The example of RFC 8439, 2.3.2. */
    private static void cipherIsTheKnownOne() throws Exception {
        SealedVolume v = new SealedVolume();
        int[] seed = array(v, "seed");
        for (int i = 0; i < 8; i++) {
            seed[4 + i] = 0x03020100 + i * 0x04040404;
        }
        seed[12] = 1;
        seed[13] = 0x09000000;
        seed[14] = 0x4a000000;
        seed[15] = 0;
        Method scramble = SealedVolume.class.getDeclaredMethod("scramble");
        scramble.setAccessible(true);
        scramble.invoke(v);
        int[] due = {
            0xe4e7f110, 0x15593bd1, 0x1fdd0f50, 0xc47120a3, 0xc7f4d1c7, 0x0368c033, 0x9aaa2204, 0x4e6cd4c3,
            0x466482d2, 0x09aa9f07, 0x05d7c214, 0xa2028bd9, 0xd19c12b5, 0xb94e16de, 0xe883d0cb, 0x4e3c50a2};
        int[] stream = array(v, "stream");
        for (int i = 0; i < 16; i++) {
            CHECKS.due("word " + i + " of the block", stream[i], due[i]);
            CHECKS.due("word " + i + " of the seed afterwards", seed[i], 0);
        }
    }

    /** No call leads there, so the faults are made by hand: the answer 0 is found, not only said. */
    private static void faultsAreFound() throws Exception {
        SealedVolume v = secretive();
        v.lock();
        array(v, "key")[0] = 1;
        CHECKS.due("a key in a locked volume", v.faults(), 1);
        v = secretive();
        v.renew(1);
        array(v, "epochs")[0] = 0;
        array(v, "epochs")[6] = 1;
        CHECKS.due("a sector renewed out of turn", v.faults(), 1);
        v = secretive();
        Field taken = SealedVolume.class.getDeclaredField("taken");
        taken.setAccessible(true);
        taken.setInt(v, 0);
        CHECKS.due("no slot has a passphrase", v.faults(), 1);
    }

    private static int differences(int[] one, int from, int[] other, int otherFrom, int words) {
        int bits = 0;
        for (int i = 0; i < words; i++) {
            bits += Integer.bitCount(one[from + i] ^ other[otherFrom + i]);
        }
        return bits;
    }

    private static int[] array(SealedVolume v, String name) throws Exception {
        Field field = SealedVolume.class.getDeclaredField(name);
        field.setAccessible(true);
        return (int[]) field.get(v);
    }

    private static List<Integer> wordsOf(SealedVolume v) throws Exception {
        List<Integer> words = new ArrayList<>();
        for (Field field : SealedVolume.class.getDeclaredFields()) {
            field.setAccessible(true);
            if (Modifier.isStatic(field.getModifiers())) {
                continue;
            }
            if (field.getType() == int.class) {
                words.add(field.getInt(v));
            } else if (field.getType() == int[].class) {
                for (int word : (int[]) field.get(v)) {
                    words.add(word);
                }
            } else {
                CHECKS.yes(field + " is looked at", field.getType() == boolean.class);
            }
        }
        return words;
    }
}
