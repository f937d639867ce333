import java.util.Arrays;
import java.util.Map;
import java.util.Set;
import java.util.TreeSet;
import java.util.concurrent.ConcurrentHashMap;
import java.util.concurrent.atomic.AtomicInteger;
import java.util.function.IntFunction;
import java.util.stream.LongStream;

/**
 * Tries out over all 2^32 ints that no two of them have the same check words, the words by which a slot knows its
 * passphrase again: that is what makes WRONG and EXISTS exact. It takes minutes and gigabytes, so it is a program
 * to be run by hand; PassphrasesTest sees to it that it speaks of the words that the class keeps.
 */
final class PassphrasesApart {
    private static final int FOR_CHECK = 2;
    private static final long ALL = 1L << 32;
    private static final int CHUNK = 1 << 16;

    private PassphrasesApart() {
    }

    /** The argument is the number of passes; the more there are, the less memory each one needs. */
    public static void main(String[] args) {
        int passes = args.length > 0 ? Integer.parseInt(args[0]) : 16;
        int sharing = sharing(PassphrasesApart::checkWords, 0, ALL, passes);
        System.out.println(sharing + " of " + ALL + " passphrases share their check words with another");
        System.exit(sharing == 0 ? 0 : 1);
    }

    /** How many of these passphrases, so many from the first one on, have the same words as another one of them. */
    static int sharing(IntFunction<int[]> wordsOf, int first, long count, int passes) {
        Set<Long> suspects = new TreeSet<>();
        long seen = 0;
        for (int pass = 0; pass < passes; pass++) {
            long[] heads = new long[(int) (count / passes + count / passes / 64 + CHUNK)];
            int size = headsOfPass(wordsOf, first, count, pass, passes, heads);
            Arrays.parallelSort(heads, 0, size);
            for (int i = 1; i < size; i++) {
                if (heads[i] == heads[i - 1]) {
                    suspects.add(heads[i]);
                }
            }
            seen += size;
        }
        if (seen != count) {
            throw new IllegalStateException(seen + " passphrases were looked at, not " + count);
        }
        return suspects.isEmpty() ? 0 : sharingAmong(suspects, wordsOf, first, count);
    }

    /** The first two words of each passphrase whose first word falls to this pass. */
    private static int headsOfPass(
            IntFunction<int[]> wordsOf, int first, long count, int pass, int passes, long[] heads) {
        AtomicInteger size = new AtomicInteger();
        LongStream.range(0, (count + CHUNK - 1) / CHUNK).parallel().forEach(chunk -> {
            long[] own = new long[CHUNK];
            int n = 0;
            for (long i = chunk * CHUNK; i < count && i < (chunk + 1) * CHUNK; i++) {
                long head = headOf(wordsOf.apply(first + (int) i));
                if ((head >>> 32) % passes == pass) {
                    own[n++] = head;
                }
            }
            System.arraycopy(own, 0, heads, size.getAndAdd(n), n);
        });
        return size.get();
    }

    /** Two words alone are sometimes the same by chance, so all of them are compared here. */
    private static int sharingAmong(Set<Long> suspects, IntFunction<int[]> wordsOf, int first, long count) {
        Map<String, Integer> owners = new ConcurrentHashMap<>();
        LongStream.range(0, count).parallel().forEach(i -> {
            int[] words = wordsOf.apply(first + (int) i);
            if (suspects.contains(headOf(words))) {
                owners.merge(Arrays.toString(words), 1, Integer::sum);
            }
        });
        int sharing = 0;
        for (int n : owners.values()) {
            sharing += n > 1 ? n : 0;
        }
        return sharing;
    }

    private static long headOf(int[] words) {
        return (long) words[0] << 32 | words[1] & 0xffffffffL;
    }

    /** The beginning of a block of ChaCha20, in local variables: the class's own form would take hours. */
    static int[] checkWords(int passphrase) {
        int x0 = 0x61707865;
        int x1 = 0x3320646e;
        int x2 = 0x79622d32;
        int x3 = 0x6b206574;
        int x4 = passphrase;
        int x5 = 0;
        int x6 = 0;
        int x7 = 0;
        int x8 = 0;
        int x9 = 0;
        int x10 = 0;
        int x11 = 0;
        int x12 = FOR_CHECK;
        int x13 = 0;
        int x14 = 0;
        int x15 = 0;
        for (int round = 0; round < 10; round++) {
            x0 += x4; x12 = Integer.rotateLeft(x12 ^ x0, 16);
            x8 += x12; x4 = Integer.rotateLeft(x4 ^ x8, 12);
            x0 += x4; x12 = Integer.rotateLeft(x12 ^ x0, 8);
            x8 += x12; x4 = Integer.rotateLeft(x4 ^ x8, 7);
            x1 += x5; x13 = Integer.rotateLeft(x13 ^ x1, 16);
            x9 += x13; x5 = Integer.rotateLeft(x5 ^ x9, 12);
            x1 += x5; x13 = Integer.rotateLeft(x13 ^ x1, 8);
            x9 += x13; x5 = Integer.rotateLeft(x5 ^ x9, 7);
            x2 += x6; x14 = Integer.rotateLeft(x14 ^ x2, 16);
            x10 += x14; x6 = Integer.rotateLeft(x6 ^ x10, 12);
            x2 += x6; x14 = Integer.rotateLeft(x14 ^ x2, 8);
            x10 += x14; x6 = Integer.rotateLeft(x6 ^ x10, 7);
            x3 += x7; x15 = Integer.rotateLeft(x15 ^ x3, 16);
            x11 += x15; x7 = Integer.rotateLeft(x7 ^ x11, 12);
            x3 += x7; x15 = Integer.rotateLeft(x15 ^ x3, 8);
            x11 += x15; x7 = Integer.rotateLeft(x7 ^ x11, 7);
            x0 += x5; x15 = Integer.rotateLeft(x15 ^ x0, 16);
            x10 += x15; x5 = Integer.rotateLeft(x5 ^ x10, 12);
            x0 += x5; x15 = Integer.rotateLeft(x15 ^ x0, 8);
            x10 += x15; x5 = Integer.rotateLeft(x5 ^ x10, 7);
            x1 += x6; x12 = Integer.rotateLeft(x12 ^ x1, 16);
            x11 += x12; x6 = Integer.rotateLeft(x6 ^ x11, 12);
            x1 += x6; x12 = Integer.rotateLeft(x12 ^ x1, 8);
            x11 += x12; x6 = Integer.rotateLeft(x6 ^ x11, 7);
            x2 += x7; x13 = Integer.rotateLeft(x13 ^ x2, 16);
            x8 += x13; x7 = Integer.rotateLeft(x7 ^ x8, 12);
            x2 += x7; x13 = Integer.rotateLeft(x13 ^ x2, 8);
            x8 += x13; x7 = Integer.rotateLeft(x7 ^ x8, 7);
            x3 += x4; x14 = Integer.rotateLeft(x14 ^ x3, 16);
            x9 += x14; x4 = Integer.rotateLeft(x4 ^ x9, 12);
            x3 += x4; x14 = Integer.rotateLeft(x14 ^ x3, 8);
            x9 += x14; x4 = Integer.rotateLeft(x4 ^ x9, 7);
        }
        return new int[] {
            x0 + 0x61707865, x1 + 0x3320646e, x2 + 0x79622d32, x3 + 0x6b206574, x4 + passphrase, x5, x6, x7};
    }
}
