import java.math.BigInteger;

/** The boundary cases of promises 6 to 10: sectors and cells. */
public final class CellBoundariesTest {
    private static final String NOT_OPEN = "the volume is not open (or not there): LOCKED";
    private static final Sentences S = new Sentences();

    public static void main(String[] args) {
        read();
        write();
        fill();
        check();
        digest();
        S.end();
    }

    private static SealedVolume lockedAfter(SealedVolume v) {
        v.lock();
        return v;
    }

    // Promise 6

    private static void read() {
        S.test(6, "What a cell holds", "each cell, after locking and opening", () -> {
            SealedVolume v = lockedAfter(Volumes.filled());
            v.unlock(Volumes.OWN);
            for (int i = 0; i < 96; i++) {
                S.due("cell " + i, v.read(i / 8, i % 8), Volumes.valueAt(i / 8, i % 8));
            }
        });
        S.test(6, "0 if sector or cell is not good", "sector", () -> {
            SealedVolume v = Volumes.filled();
            for (int sector : Volumes.NOT_SECTORS) {
                for (int cell = 0; cell < 8; cell++) {
                    S.due("read(" + sector + ", " + cell + ")", v.read(sector, cell), 0);
                }
            }
        });
        S.test(6, "0 if sector or cell is not good", "cell, though the next sector holds something", () -> {
            SealedVolume v = Volumes.filled();
            for (int cell : Volumes.NOT_CELLS) {
                for (int sector = 0; sector < 12; sector++) {
                    S.due("read(" + sector + ", " + cell + ")", v.read(sector, cell), 0);
                }
            }
        });
        S.test(6, "0 if sector or cell is not good", "both", () -> {
            SealedVolume v = Volumes.filled();
            S.due("read(-1, 8)", v.read(-1, 8), 0);
            S.due("read(12, -8)", v.read(12, -8), 0);
            S.due("read(MAX, MAX)", v.read(Volumes.MAX, Volumes.MAX), 0);
            S.due("read(MIN, MIN)", v.read(Volumes.MIN, Volumes.MIN), 0);
        });
        S.test(6, "the volume is not open (or not there)", "locked", () -> {
            SealedVolume v = lockedAfter(Volumes.filled());
            for (int i = 0; i < 96; i++) {
                S.due("cell " + i, v.read(i / 8, i % 8), 0);
            }
        });
        S.test(6, "the volume is not open (or not there)", "not there", () ->
            S.due("read", Volumes.none().read(0, 0), 0));
        S.test(6, "or the sector is damaged", "each cell of each sector, the others read as before", () -> {
            for (int damaged = 0; damaged < 12; damaged++) {
                SealedVolume v = Volumes.filled();
                v.damage(damaged, 64 * damaged);
                for (int i = 0; i < 96; i++) {
                    int due = i / 8 == damaged ? 0 : Volumes.valueAt(i / 8, i % 8);
                    S.due("cell " + i, v.read(i / 8, i % 8), due);
                }
            }
        });
    }

    // Promise 7

    private static void write() {
        S.test(7, "Puts a value into a cell", "the first and the last, the least and the greatest", () -> {
            for (int value : Volumes.INTS) {
                SealedVolume v = Volumes.filled();
                S.due("write(0, 0)", v.write(0, 0, value), 0);
                S.due("write(11, 7)", v.write(11, 7, value), 0);
                S.due("read(0, 0)", v.read(0, 0), value);
                S.due("read(11, 7)", v.read(11, 7), value);
                S.due("read(0, 1)", v.read(0, 1), Volumes.valueAt(0, 1));
                S.due("read(11, 6)", v.read(11, 6), Volumes.valueAt(11, 6));
            }
        });
        S.test(7, "sector or cell is not good: BAD", "sector", () -> {
            SealedVolume v = Volumes.open();
            for (int sector : Volumes.NOT_SECTORS) {
                S.due("write(" + sector + ")", v.write(sector, 0, 1), -1);
            }
            S.due("digest", v.digest(), 0);
        });
        S.test(7, "sector or cell is not good: BAD", "cell, and no neighbour is hit", () -> {
            SealedVolume v = Volumes.open();
            for (int cell : Volumes.NOT_CELLS) {
                S.due("write to " + cell, v.write(5, cell, 1), -1);
            }
            S.due("digest", v.digest(), 0);
        });
        S.test(7, NOT_OPEN, "locked", () -> {
            SealedVolume v = Volumes.locked();
            S.due("write", v.write(0, 0, 1), -3);
            v.unlock(Volumes.OWN);
            S.due("read", v.read(0, 0), 0);
        });
        S.test(7, NOT_OPEN, "not there", () -> S.due("write", Volumes.none().write(0, 0, 1), -3));
        S.test(7, "the sector is damaged: DAMAGED", "each sector, each cell", () -> {
            for (int sector = 0; sector < 12; sector++) {
                SealedVolume v = Volumes.filled();
                v.damage(sector, sector);
                for (int cell = 0; cell < 8; cell++) {
                    S.due("write", v.write(sector, cell, 1), -10);
                }
                S.due("check", v.check(sector), -10);
                S.due("another sector", v.write((sector + 1) % 12, 0, 1), 0);
            }
        });
        S.test(7, "Else answers 0", "a damaged sector that was filled", () -> {
            SealedVolume v = Volumes.filled();
            v.damage(0, 0);
            v.fill(0, 1, 1);
            S.due("write", v.write(0, 0, 5), 0);
            S.due("read", v.read(0, 0), 5);
        });
    }

    // Promise 8

    private static void fill() {
        S.test(8, "Cell c of a sector gets value + c * step (wrapping)", "the sum and the product wrap", () -> {
            for (int value : Volumes.INTS) {
                for (int step : Volumes.INTS) {
                    SealedVolume v = Volumes.open();
                    S.due("fill(11, " + value + ", " + step + ")", v.fill(11, value, step), 0);
                    for (int c = 0; c < 8; c++) {
                        S.due("cell " + c + " of " + value + ", " + step, v.read(11, c), wrapped(value, c, step));
                    }
                }
            }
        });
        S.test(8, "for all its cells", "the first and the last, and none of the next sectors", () -> {
            for (int sector = 0; sector < 12; sector++) {
                SealedVolume v = Volumes.open();
                v.fill(sector, 1, 0);
                for (int i = 0; i < 96; i++) {
                    S.due("cell " + i, v.read(i / 8, i % 8), i / 8 == sector ? 1 : 0);
                }
            }
        });
        S.test(8, "it is sound then", "damaged anywhere, also when being renewed", () -> {
            for (int left = 0; left <= 12; left++) {
                SealedVolume v = Volumes.toRenew(left);
                for (int sector = 0; sector < 12; sector++) {
                    v.damage(sector, 25 * sector + left);
                    v.fill(sector, 3, 2);
                    S.due("check, " + left + " left", v.check(sector), 0);
                    S.due("read, " + left + " left", v.read(sector, 7), 17);
                }
            }
        });
        S.test(8, "sector is not good: BAD", "too small, too large", () -> {
            SealedVolume v = Volumes.open();
            for (int sector : Volumes.NOT_SECTORS) {
                S.due("fill(" + sector + ")", v.fill(sector, 1, 1), -1);
            }
            S.due("digest", v.digest(), 0);
        });
        S.test(8, NOT_OPEN, "locked", () -> {
            SealedVolume v = lockedAfter(Volumes.filled());
            v.damage(1, 1);
            S.due("fill of a sound one", v.fill(0, 1, 1), -3);
            S.due("fill of a damaged one", v.fill(1, 1, 1), -3);
            v.unlock(Volumes.OWN);
            S.due("read", v.read(0, 0), Volumes.valueAt(0, 0));
            S.due("check", v.check(1), -10);
        });
        S.test(8, NOT_OPEN, "not there", () -> S.due("fill", Volumes.none().fill(0, 1, 1), -3));
        S.test(8, "Else answers 1 if it was damaged", "once, not twice", () -> {
            SealedVolume v = Volumes.filled();
            Volumes.damageAll(v);
            for (int sector = 0; sector < 12; sector++) {
                S.due("fill of " + sector, v.fill(sector, 0, 0), 1);
                S.due("again", v.fill(sector, 0, 0), 0);
            }
        });
        S.test(8, "else 0", "a sound one beside damaged ones", () -> {
            SealedVolume v = Volumes.filled();
            v.damage(4, 4);
            v.damage(6, 6);
            S.due("fill", v.fill(5, 0, 0), 0);
        });
    }

    private static int wrapped(int value, int c, int step) {
        BigInteger product = BigInteger.valueOf(c).multiply(BigInteger.valueOf(step));
        return product.add(BigInteger.valueOf(value)).intValue();
    }

    // Promise 9

    private static void check() {
        S.test(9, "sector is not good: BAD", "too small, too large", () -> {
            SealedVolume v = Volumes.open();
            for (int sector : Volumes.NOT_SECTORS) {
                S.due("check(" + sector + ")", v.check(sector), -1);
            }
        });
        S.test(9, NOT_OPEN, "locked", () -> {
            for (int sector = 0; sector < 12; sector++) {
                S.due("check(" + sector + ")", Volumes.locked().check(sector), -3);
            }
        });
        S.test(9, NOT_OPEN, "not there", () -> S.due("check", Volumes.none().check(0), -3));
        S.test(9, "the sector is damaged: DAMAGED", "all of them, damaged while locked", () -> {
            SealedVolume v = lockedAfter(Volumes.filled());
            Volumes.damageAll(v);
            v.unlock(Volumes.OWN);
            for (int sector = 0; sector < 12; sector++) {
                S.due("check(" + sector + ")", v.check(sector), -10);
            }
        });
        S.test(9, "Else 0", "every sector of a volume with every int in it", () -> {
            for (int value : Volumes.INTS) {
                SealedVolume v = Volumes.open();
                for (int sector = 0; sector < 12; sector++) {
                    v.fill(sector, value, sector);
                    S.due("check(" + sector + ")", v.check(sector), 0);
                }
            }
        });
    }

    // Promise 10

    private static void digest() {
        S.test(10, "The sum of (8 * sector + cell + 1) times what the cell holds", "each cell alone", () -> {
            for (int i = 0; i < 96; i++) {
                SealedVolume v = Volumes.open();
                v.write(i / 8, i % 8, 1);
                S.due("cell " + i % 8 + " of " + i / 8, v.digest(), i + 1);
            }
        });
        S.test(10, "over all cells of sound sectors (wrapping)", "the sum and the products wrap", () -> {
            for (int value : Volumes.INTS) {
                for (int step : Volumes.INTS) {
                    digestOf(value, step, -1);
                }
            }
        });
        S.test(10, "over all cells of sound sectors (wrapping)", "each sector damaged alone", () -> {
            for (int damaged = 0; damaged < 12; damaged++) {
                digestOf(Volumes.MAX, 12345, damaged);
            }
        });
        S.test(10, "over all cells of sound sectors (wrapping)", "no sector is sound", () -> {
            SealedVolume v = Volumes.filled();
            Volumes.damageAll(v);
            S.due("digest", v.digest(), 0);
        });
        S.test(10, "over all cells of sound sectors (wrapping)", "all cells 0", () ->
            S.due("digest", Volumes.open().digest(), 0));
        S.test(10, "0 if the volume is not open (or not there)", "locked", () ->
            S.due("digest", lockedAfter(Volumes.filled()).digest(), 0));
        S.test(10, "0 if the volume is not open (or not there)", "not there", () ->
            S.due("digest", Volumes.none().digest(), 0));
    }

    private static void digestOf(int value, int step, int damaged) {
        SealedVolume v = Volumes.open();
        BigInteger sum = BigInteger.ZERO;
        for (int sector = 0; sector < 12; sector++) {
            v.fill(sector, value, step);
            for (int cell = 0; cell < 8 && sector != damaged; cell++) {
                BigInteger held = BigInteger.valueOf(wrapped(value, cell, step));
                sum = sum.add(held.multiply(BigInteger.valueOf(8 * sector + cell + 1)));
            }
        }
        if (damaged >= 0) {
            v.damage(damaged, 3);
        }
        S.due("digest of " + value + ", " + step, v.digest(), sum.intValue());
    }
}
