import java.lang.reflect.Field;
import java.util.Arrays;
import java.util.HashMap;
import java.util.Map;
import java.util.Random;

/** The words by which a slot knows its passphrase, and the program that tries them out over all ints. */
public final class PassphrasesTest {
    private static final Checks CHECKS = new Checks();
    private static final int[] EDGES = {
        0, 1, -1, 2, 31, 32, 65535, 65536, Integer.MAX_VALUE, Integer.MIN_VALUE, Integer.MIN_VALUE + 1};

    public static void main(String[] args) throws Exception {
        slotsKeepWhatIsTriedOut();
        nearlySharingAreToldApart();
        sharedWordsAreFound();
        someAreApart();
        CHECKS.end();
    }

    /** Whatever the slot and however often there was a format: else the trial would not speak of this class. */
    private static void slotsKeepWhatIsTriedOut() throws Exception {
        for (int passphrase : EDGES) {
            keepsWhatIsTriedOut(passphrase);
        }
        Random random = new Random(8);
        for (int i = 0; i < 2000; i++) {
            keepsWhatIsTriedOut(random.nextInt());
        }
    }

    private static void keepsWhatIsTriedOut(int passphrase) throws Exception {
        SealedVolume v = new SealedVolume();
        for (int formats = 1; formats <= 3; formats++) {
            v.format(passphrase);
            wordsAreTriedOut(v, 0, passphrase);
        }
        v.unlock(passphrase);
        for (int slot = 1; slot < 4; slot++) {
            v.addKey(passphrase + slot);
            wordsAreTriedOut(v, slot, passphrase + slot);
        }
        v.changeKey(2, passphrase + 9);
        wordsAreTriedOut(v, 2, passphrase + 9);
    }

    private static void wordsAreTriedOut(SealedVolume v, int slot, int passphrase) throws Exception {
        Field field = SealedVolume.class.getDeclaredField("slotWords");
        field.setAccessible(true);
        int[] kept = Arrays.copyOfRange((int[]) field.get(v), 16 * slot, 16 * slot + 8);
        CHECKS.yes("slot " + slot + " knows " + passphrase + " by the words that are tried out",
            Arrays.equals(kept, PassphrasesApart.checkWords(passphrase)));
    }

    /** Passphrases that share one of the words: a class that looked at that one alone would mix them up. */
    private static void nearlySharingAreToldApart() {
        for (int word = 0; word < 8; word++) {
            Map<Integer, Integer> owners = new HashMap<>();
            int pairs = 0;
            for (int passphrase = 0; passphrase < 1 << 18; passphrase++) {
                Integer other = owners.put(PassphrasesApart.checkWords(passphrase)[word], passphrase);
                if (other != null) {
                    areToldApart(other, passphrase);
                    pairs++;
                }
            }
            CHECKS.yes("there are passphrases that share word " + word, pairs > 0);
        }
    }

    private static void areToldApart(int one, int other) {
        SealedVolume v = new SealedVolume();
        v.format(one);
        CHECKS.due("unlock(" + other + ") after format(" + one + ")", v.unlock(other), SealedVolume.WRONG);
        CHECKS.due("slotOf(" + other + ") after format(" + one + ")", v.slotOf(other), SealedVolume.WRONG);
        CHECKS.due("unlock(" + one + ") after format(" + one + ")", v.unlock(one), 0);
        CHECKS.due("addKey(" + other + ") beside " + one, v.addKey(other), 1);
        CHECKS.due("changeKey(0, " + other + ") in place of " + one, v.changeKey(0, other), SealedVolume.EXISTS);
        CHECKS.due("slotOf(" + other + ") beside " + one, v.slotOf(other), 1);
    }

    /** The trial's answer is worth something only if it can be another one than 0. */
    private static void sharedWordsAreFound() {
        for (int passes = 1; passes <= 3; passes++) {
            CHECKS.due("two that share all words",
                PassphrasesApart.sharing(p -> words(p == 99999 ? -5 : p), -50000, 200000, passes), 2);
            CHECKS.due("three that share all words",
                PassphrasesApart.sharing(p -> words(p == 70000 || p == 3 ? 4 : p), 0, 100000, passes), 3);
            CHECKS.due("two that differ in the last word alone",
                PassphrasesApart.sharing(p -> p == 7 ? lastTurned(words(8)) : words(p), 0, 100000, passes), 0);
        }
    }

    private static int[] words(int p) {
        return new int[] {p * 0x9e3779b1, p, 0, 0, 0, 0, 0, 0};
    }

    private static int[] lastTurned(int[] words) {
        words[7] ^= 1;
        return words;
    }

    private static void someAreApart() {
        CHECKS.due("those around 0 that share their check words",
            PassphrasesApart.sharing(PassphrasesApart::checkWords, -(1 << 19), 1 << 20, 2), 0);
    }
}
