import java.util.Random;

/** Long runs of calls, always the same ones, on the class and on the plain form of the document side by side. */
public final class RandomRunsTest {
    private static final int RUNS = 3000;
    private static final int CALLS = 380;
    private static final int[] PASSPHRASES = {0, 1, 2, 3, 4, -1, Integer.MIN_VALUE, Integer.MAX_VALUE};
    private static final int[] EDGES = {
        0, 1, -1, 7, 8, 9, 11, 12, 13, 31, 32, 287, 288, Integer.MIN_VALUE, Integer.MAX_VALUE};

    private final Checks checks;
    private final Random random;
    private final String run;
    private final SealedVolume sealed = new SealedVolume();
    private final PlainVolume plain = new PlainVolume();

    private RandomRunsTest(Checks checks, int seed) {
        this.checks = checks;
        this.random = new Random(seed);
        this.run = "run " + seed + ": ";
    }

    public static void main(String[] args) {
        Checks checks = new Checks();
        for (int seed = 0; seed < RUNS && checks.clean(); seed++) {
            RandomRunsTest test = new RandomRunsTest(checks, seed);
            for (int i = 0; i < CALLS && checks.clean(); i++) {
                test.anyCall();
            }
            test.readAll();
        }
        checks.end();
    }

    private void readAll() {
        for (int passphrase : PASSPHRASES) {
            due("unlock(" + passphrase + ")", sealed.unlock(passphrase), plain.unlock(passphrase));
        }
        for (int sector = 0; sector < 12; sector++) {
            for (int cell = 0; cell < 8; cell++) {
                due("read(" + sector + ", " + cell + ")", sealed.read(sector, cell), plain.read(sector, cell));
            }
        }
        due("digest()", sealed.digest(), plain.digest());
    }

    private void anyCall() {
        // Most calls need an open volume, so opening one comes up often, and a new one seldom.
        int choice = random.nextInt(100);
        if (choice < 2) {
            int p = passphrase();
            due("format(" + p + ")", sealed.format(p), plain.format(p));
        } else if (choice < 20) {
            int p = passphrase();
            due("unlock(" + p + ")", sealed.unlock(p), plain.unlock(p));
        } else if (choice < 22) {
            due("lock()", sealed.lock(), plain.lock());
        } else if (choice < 55) {
            contentsCall();
        } else if (choice < 75) {
            slotCall();
        } else {
            rarerCall();
        }
    }

    private void contentsCall() {
        int sector = small(12);
        int cell = small(8);
        int value = number();
        int step = number();
        switch (random.nextInt(6)) {
            case 0 -> due("read(" + sector + ", " + cell + ")", sealed.read(sector, cell), plain.read(sector, cell));
            case 1, 2 -> due("write(" + sector + ", " + cell + ", " + value + ")",
                sealed.write(sector, cell, value), plain.write(sector, cell, value));
            case 3 -> due("fill(" + sector + ", " + value + ", " + step + ")",
                sealed.fill(sector, value, step), plain.fill(sector, value, step));
            case 4 -> due("check(" + sector + ")", sealed.check(sector), plain.check(sector));
            default -> due("digest()", sealed.digest(), plain.digest());
        }
    }

    private void slotCall() {
        int p = passphrase();
        int slot = small(4);
        switch (random.nextInt(5)) {
            case 0 -> due("addKey(" + p + ")", sealed.addKey(p), plain.addKey(p));
            case 1 -> due("removeKey(" + slot + ")", sealed.removeKey(slot), plain.removeKey(slot));
            case 2 -> due("changeKey(" + slot + ", " + p + ")", sealed.changeKey(slot, p), plain.changeKey(slot, p));
            case 3 -> due("slots()", sealed.slots(), plain.slots());
            default -> due("slotOf(" + p + ")", sealed.slotOf(p), plain.slotOf(p));
        }
    }

    private void rarerCall() {
        int sector = small(12);
        int n = number();
        int steps = random.nextInt(3) == 0 ? n : random.nextInt(16) - 2;
        switch (random.nextInt(9)) {
            case 0, 1 -> due("renew(" + steps + ")", sealed.renew(steps), plain.renew(steps));
            case 2 -> due("toRenew()", sealed.toRenew(), plain.toRenew());
            case 3 -> due("saveSlots()", sealed.saveSlots(), plain.saveSlots());
            case 4 -> due("restoreSlots()", sealed.restoreSlots(), plain.restoreSlots());
            case 5 -> due("damage(" + sector + ", " + n + ")", sealed.damage(sector, n), plain.damage(sector, n));
            case 6 -> due("crash(" + steps + ")", sealed.crash(steps), plain.crash(steps));
            case 7 -> due("faults()", sealed.faults(), plain.faults());
            default -> due("state()", sealed.state(), plain.state());
        }
    }

    private void due(String call, int got, int want) {
        checks.due(run + call, got, want);
    }

    private int passphrase() {
        return PASSPHRASES[random.nextInt(PASSPHRASES.length)];
    }

    private int small(int limit) {
        return random.nextInt(12) == 0 ? EDGES[random.nextInt(EDGES.length)] : random.nextInt(limit);
    }

    private int number() {
        return random.nextBoolean() ? random.nextInt() : EDGES[random.nextInt(EDGES.length)];
    }
}
