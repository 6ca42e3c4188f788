import java.util.Random;

/**
 * Promises 8 and 31 to 36 on calls drawn by lot: SHEETS are compared with rows of Java's own, so that the
 * machine itself tells what a FINDING of each number is.
 */
public final class SheetsByLotTest {
    private static final Random LOT = new Random(3136);
    private static final int LEAST = Integer.MIN_VALUE;
    private static final int[] ODD = {LEAST, LEAST + 1, -70000, -129, -1, 48, 49, 128, 32768, 70000, Integer.MAX_VALUE};

    private final PromisesKept x = Due.with("0100059;1200109;2300159;0101209");
    private final Object[] rows = new Object[4];
    private final int[] means = {9, 9, 9, 9, 9, 9};
    private int finding = 0;

    public static void main(String[] args) {
        for (int run = 0; run < 1000; run++) {
            SheetsByLotTest one = new SheetsByLotTest();
            for (int call = 0; call < 100; call++) {
                one.anyCall("run " + run + ", call " + call + ": ");
            }
        }
        Due.end();
    }

    private void anyCall(String at) {
        int s = sheet();
        switch (LOT.nextInt(8)) {
            case 0:
            case 1:
                make(at, s, form(), LOT.nextInt(9) == 0 ? odd() : LOT.nextInt(LOT.nextBoolean() ? 8 : 49));
                break;
            case 2:
                put(at, s, form(s), item(s), LOT.nextBoolean() ? odd() : LOT.nextInt(12) - 1);
                break;
            case 3:
                get(at, s, form(s), item(s));
                break;
            case 4:
                int t = LOT.nextInt(3) == 0 ? s : sheet();
                copy(at, s, item(s), t, item(t), LOT.nextInt(9) == 0 ? odd() : LOT.nextInt(5));
                break;
            case 5:
                write(at, s, LOT.nextInt(9) == 0 ? odd() : LOT.nextInt(100));
                break;
            case 6:
                read(at, s);
                break;
            default:
                if (LOT.nextInt(4) == 0) {
                    lose(at, s);
                }
        }
        Due.is(at + "count(8)", x.count(8), finding);
    }

    private static int odd() {
        return ODD[LOT.nextInt(ODD.length)];
    }

    private static int sheet() {
        return LOT.nextInt(20) == 0 ? LOT.nextBoolean() ? -1 : 4 : LOT.nextInt(4);
    }

    private static int form() {
        return LOT.nextInt(20) == 0 ? LOT.nextBoolean() ? -1 : 3 : LOT.nextInt(3);
    }

    /** Mostly the form that it has, so that items are reached. */
    private int form(int s) {
        return LOT.nextInt(4) == 0 || !isSheet(s) || rows[s] == null ? form() : formOf(rows[s]);
    }

    private int item(int s) {
        int size = isSheet(s) ? Math.max(0, size(rows[s])) : 0;
        return LOT.nextInt(9) == 0 ? odd() : LOT.nextInt(size + 2);
    }

    private static boolean isSheet(int s) {
        return s >= 0 && s < 4;
    }

    private static int formOf(Object row) {
        return row instanceof byte[] ? 0 : row instanceof short[] ? 1 : 2;
    }

    private static int size(Object row) {
        return row == null ? 0 : java.lang.reflect.Array.getLength(row);
    }

    private int found(RuntimeException e) {
        finding = e instanceof NullPointerException ? 1
            : e instanceof IndexOutOfBoundsException ? 2
            : e instanceof ClassCastException ? 3
            : e instanceof ArrayStoreException ? 4 : 5;
        return -10 - finding;
    }

    private void make(String at, int s, int form, int n) {
        int due = Due.BAD;
        if (isSheet(s) && form >= 0 && form < 3 && n <= 48) {
            try {
                rows[s] = form == 0 ? new byte[n] : form == 1 ? (Object) new short[n] : new int[n];
                due = n;
            } catch (NegativeArraySizeException e) {
                due = found(e);
            }
        }
        Due.is(at + "sheet(" + s + ", " + form + ", " + n + ")", x.sheet(s, form, n), due);
    }

    private void lose(String at, int s) {
        int due = Due.BAD;
        if (isSheet(s)) {
            try {
                due = java.lang.reflect.Array.getLength(rows[s]);
                rows[s] = null;
            } catch (NullPointerException e) {
                due = found(e);
            }
        }
        Due.is(at + "lose(" + s + ")", x.lose(s), due);
    }

    private static void store(Object row, int form, int i, int v) {
        if (row == null) {
            throw new NullPointerException();
        }
        switch (form) {
            case 0:
                ((byte[]) row)[i] = (byte) v;
                break;
            case 1:
                ((short[]) row)[i] = (short) v;
                break;
            default:
                ((int[]) row)[i] = v;
        }
    }

    private static int load(Object row, int form, int i) {
        if (row == null) {
            throw new NullPointerException();
        }
        return form == 0 ? ((byte[]) row)[i] : form == 1 ? ((short[]) row)[i] : ((int[]) row)[i];
    }

    private void put(String at, int s, int form, int i, int v) {
        int due = Due.BAD;
        if (isSheet(s) && form >= 0 && form < 3) {
            try {
                store(rows[s], form, i, v);
                due = 1;
            } catch (RuntimeException e) {
                due = found(e);
            }
        }
        Due.is(at + "put(" + s + ", " + form + ", " + i + ", " + v + ")", x.put(s, form, i, v), due);
    }

    private void get(String at, int s, int form, int i) {
        int due = LEAST;
        if (isSheet(s) && form >= 0 && form < 3) {
            try {
                due = load(rows[s], form, i);
            } catch (RuntimeException e) {
                found(e);
            }
        }
        Due.is(at + "get(" + s + ", " + form + ", " + i + ")", x.get(s, form, i), due);
    }

    private void copy(String at, int s, int i, int t, int j, int n) {
        int due = Due.BAD;
        if (isSheet(s) && isSheet(t)) {
            try {
                System.arraycopy(rows[s], i, rows[t], j, n);
                due = 1;
            } catch (RuntimeException e) {
                due = found(e);
            }
        }
        String call = "copy(" + s + ", " + i + ", " + t + ", " + j + ", " + n + ")";
        Due.is(at + call, x.copy(s, i, t, j, n), due);
    }

    private void write(String at, int s, int day) {
        int due = Due.BAD;
        if (isSheet(s) && day >= 0 && day < 100) {
            try {
                due = Math.min(6, java.lang.reflect.Array.getLength(rows[s]));
                for (int person = 0; person < due; person++) {
                    store(rows[s], formOf(rows[s]), person, x.trust(person, day));
                }
            } catch (NullPointerException e) {
                due = found(e);
            }
        }
        Due.is(at + "write(" + day + ", " + s + ")", x.write(day, s), due);
    }

    private void read(String at, int s) {
        int due = Due.BAD;
        if (isSheet(s)) {
            try {
                int most = Math.min(6, java.lang.reflect.Array.getLength(rows[s]));
                due = 0;
                while (due < most && load(rows[s], formOf(rows[s]), due) >= 0 && load(rows[s], formOf(rows[s]), due) <= 9) {
                    means[due] = load(rows[s], formOf(rows[s]), due);
                    due++;
                }
            } catch (NullPointerException e) {
                due = found(e);
            }
        }
        Due.is(at + "read(" + s + ")", x.read(s), due);
        for (int person = 0; person < 6; person++) {
            Due.is(at + "means(" + person + ", 0)", x.means(person, 0), means[person]);
        }
    }
}
