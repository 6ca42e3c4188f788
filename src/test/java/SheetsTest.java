/** Promises 31 to 38: sheet, lose, put, get, copy, write, count, digest. */
public final class SheetsTest {
    private static final int LEAST = Integer.MIN_VALUE;
    private static final int MOST = Integer.MAX_VALUE;

    public static void main(String[] args) {
        sheet();
        lose();
        put();
        get();
        copy();
        copyOntoItself();
        write();
        count();
        digest();
        Due.end();
    }

    /** A finding shows in its answer and in count(8). */
    private static void finds(PromisesKept x, String call, int got, int want) {
        Due.is(call, got, want);
        Due.is("count(8) behind " + call, x.count(8), -10 - want);
    }

    private static void sheet() {
        PromisesKept x = new PromisesKept();
        Due.is("sheet(-1, 0, 0)", x.sheet(-1, 0, 0), Due.BAD);
        Due.is("sheet(4, 0, 0)", x.sheet(4, 0, 0), Due.BAD);
        Due.is("sheet(0, -1, 0)", x.sheet(0, -1, 0), Due.BAD);
        Due.is("sheet(0, 3, 0)", x.sheet(0, 3, 0), Due.BAD);
        Due.is("sheet(0, 0, 49)", x.sheet(0, 0, 49), Due.BAD);
        Due.is("sheet, bad ahead of SIZE", x.sheet(4, 0, -1), Due.BAD);
        Due.is("count(8): bad is no finding", x.count(8), 0);
        finds(x, "sheet(0, 0, -1)", x.sheet(0, 0, -1), Due.SIZE);
        finds(x, "sheet(0, 0, least)", x.sheet(0, 0, LEAST), Due.SIZE);
        Due.is("still lost", x.lose(0), Due.NULL);
        Due.is("sheet(0, 0, 0)", x.sheet(0, 0, 0), 0);
        Due.is("lose(0)", x.lose(0), 0);
        Due.is("sheet(3, 2, 48)", x.sheet(3, 2, 48), 48);
        x.put(3, 2, 47, 5);
        x.sheet(3, 2, -1);
        Due.is("SIZE changes nothing", x.get(3, 2, 47), 5);
        Due.is("sheet(3, 2, 48) anew", x.sheet(3, 2, 48), 48);
        Due.is("all items are 0", x.get(3, 2, 47), 0);
    }

    private static void lose() {
        PromisesKept x = new PromisesKept();
        Due.is("lose(-1)", x.lose(-1), Due.BAD);
        Due.is("lose(4)", x.lose(4), Due.BAD);
        finds(x, "lose(1)", x.lose(1), Due.NULL);
        x.sheet(1, 1, 7);
        Due.is("lose(1)", x.lose(1), 7);
        finds(x, "lose(1) again", x.lose(1), Due.NULL);
        finds(x, "put", x.put(1, 1, 0, 1), Due.NULL);
    }

    private static void put() {
        PromisesKept x = new PromisesKept();
        Due.is("put(-1, 0, 0, 1)", x.put(-1, 0, 0, 1), Due.BAD);
        Due.is("put(4, 0, 0, 1)", x.put(4, 0, 0, 1), Due.BAD);
        Due.is("put(0, -1, 0, 1)", x.put(0, -1, 0, 1), Due.BAD);
        Due.is("put(0, 3, 0, 1)", x.put(0, 3, 0, 1), Due.BAD);
        finds(x, "put, NULL ahead of all", x.put(0, 1, 9, 1), Due.NULL);
        x.sheet(0, 0, 3);
        finds(x, "put, CAST ahead of INDEX", x.put(0, 1, 9, 1), Due.CAST);
        finds(x, "put(0, 0, 3, 1)", x.put(0, 0, 3, 1), Due.INDEX);
        finds(x, "put(0, 0, -1, 1)", x.put(0, 0, -1, 1), Due.INDEX);
        finds(x, "put(0, 0, most, 1)", x.put(0, 0, MOST, 1), Due.INDEX);
        finds(x, "put(0, 0, least, 1)", x.put(0, 0, LEAST, 1), Due.INDEX);
        int[] values = {0, 127, 128, 255, 256, -129, 32767, 32768, 65535, -32769, MOST, LEAST};
        x.sheet(1, 1, 3);
        x.sheet(2, 2, 3);
        for (int v : values) {
            for (int form = 0; form < 3; form++) {
                Due.is("put", x.put(form, form, 2, v), 1);
                int cut = form == 0 ? (byte) v : form == 1 ? (short) v : v;
                Due.is("get of " + v + " in form " + form, x.get(form, form, 2), cut);
            }
        }
        Due.is("the others stay", x.get(2, 2, 1), 0);
    }

    private static void get() {
        PromisesKept x = new PromisesKept();
        Due.is("get(-1, 0, 0)", x.get(-1, 0, 0), LEAST);
        Due.is("get(4, 0, 0)", x.get(4, 0, 0), LEAST);
        Due.is("get(0, -1, 0)", x.get(0, -1, 0), LEAST);
        Due.is("get(0, 3, 0)", x.get(0, 3, 0), LEAST);
        Due.is("count(8)", x.count(8), 0);
        Due.is("get of a lost one", x.get(0, 0, 0), LEAST);
        Due.is("count(8), NULL", x.count(8), 1);
        x.sheet(0, 2, 2);
        Due.is("get of another form", x.get(0, 1, 5), LEAST);
        Due.is("count(8), CAST", x.count(8), 3);
        Due.is("get of no such item", x.get(0, 2, 2), LEAST);
        Due.is("count(8), INDEX", x.count(8), 2);
        x.get(0, 1, 0);
        Due.is("get(0, 2, -1)", x.get(0, 2, -1), LEAST);
        Due.is("count(8), INDEX again", x.count(8), 2);
        Due.is("get(0, 2, 1)", x.get(0, 2, 1), 0);
        Due.is("count(8) stays", x.count(8), 2);
    }

    private static PromisesKept withRow(int form, int n) {
        PromisesKept x = new PromisesKept();
        x.sheet(0, form, n);
        for (int i = 0; i < n; i++) {
            x.put(0, form, i, i + 1);
        }
        return x;
    }

    private static void copy() {
        PromisesKept x = withRow(1, 5);
        Due.is("copy from no sheet", x.copy(-1, 0, 0, 0, 0), Due.BAD);
        Due.is("copy from no sheet", x.copy(4, 0, 0, 0, 0), Due.BAD);
        Due.is("copy to no sheet", x.copy(0, 0, -1, 0, 0), Due.BAD);
        Due.is("copy to no sheet", x.copy(0, 0, 4, 0, 0), Due.BAD);
        finds(x, "copy to a lost one", x.copy(0, 9, 1, 9, 9), Due.NULL);
        x.sheet(1, 2, 4);
        finds(x, "copy to another form", x.copy(0, 9, 1, 9, 9), Due.STORE);
        finds(x, "copy from a lost one", x.copy(2, 0, 1, 0, 0), Due.NULL);
        x.sheet(1, 1, 4);
        int[][] none = {{-1, 0, 1}, {0, -1, 1}, {0, 0, -1}, {5, 0, 1}, {6, 0, 0}, {0, 5, 0}, {0, 0, 5}, {2, 0, 4},
            {1, 1, MOST}, {MOST, 0, 1}, {0, MOST, 1}, {LEAST, 0, 0}, {0, LEAST, 0}, {0, 0, LEAST}, {MOST, MOST, MOST}};
        for (int[] n : none) {
            finds(x, "copy(0, " + n[0] + ", 1, " + n[1] + ", " + n[2] + ")", x.copy(0, n[0], 1, n[1], n[2]), Due.INDEX);
        }
        Due.is("copy of nothing at the ends", x.copy(0, 5, 1, 4, 0), 1);
        Due.is("nothing came", x.get(1, 1, 3), 0);
        Due.is("copy(0, 2, 1, 1, 3)", x.copy(0, 2, 1, 1, 3), 1);
        int[] due = {0, 3, 4, 5};
        for (int i = 0; i < 4; i++) {
            Due.is("item " + i, x.get(1, 1, i), due[i]);
        }
        Due.is("what was copied stays", x.get(0, 1, 2), 3);
    }

    private static void copyOntoItself() {
        PromisesKept x = withRow(0, 5);
        Due.is("copy ahead", x.copy(0, 0, 0, 1, 4), 1);
        int[] ahead = {1, 1, 2, 3, 4};
        for (int i = 0; i < 5; i++) {
            Due.is("ahead, item " + i, x.get(0, 0, i), ahead[i]);
        }
        Due.is("copy back", x.copy(0, 2, 0, 0, 3), 1);
        int[] back = {2, 3, 4, 3, 4};
        for (int i = 0; i < 5; i++) {
            Due.is("back, item " + i, x.get(0, 0, i), back[i]);
        }
    }

    private static void write() {
        PromisesKept x = Due.with("0100059;1200059");
        x.set(3, 0, 99);
        x.set(3, 1, 5);
        x.set(2, 1, 0);
        Due.is("write(-1, 0)", x.write(-1, 0), Due.BAD);
        Due.is("write(100, 0)", x.write(100, 0), Due.BAD);
        Due.is("write(0, -1)", x.write(0, -1), Due.BAD);
        Due.is("write(0, 4)", x.write(0, 4), Due.BAD);
        finds(x, "write(0, 0)", x.write(0, 0), Due.NULL);
        x.sheet(0, 2, 8);
        x.put(0, 2, 6, 77);
        Due.is("write(4, 0)", x.write(4, 0), 6);
        Due.is("trust on day 4", x.get(0, 2, 0), 99);
        Due.is("write(5, 0)", x.write(5, 0), 6);
        int[] due = {108, -4, 50, 50, 50, 50, 77, 0};
        for (int i = 0; i < 8; i++) {
            Due.is("written, item " + i, x.get(0, 2, i), due[i]);
        }
        x.sheet(1, 1, 2);
        Due.is("write to two", x.write(5, 1), 2);
        Due.is("the second", x.get(1, 1, 1), -4);
        x.sheet(1, 1, 0);
        Due.is("write to none", x.write(5, 1), 0);
        PromisesKept high = Due.with("0100019;0101029;0102039;0103049");
        high.set(3, 0, 99);
        high.sheet(0, 0, 1);
        high.write(9, 0);
        Due.is("a byte has eight bits", high.get(0, 0, 0), (byte) 135);
    }

    private static void count() {
        PromisesKept x = Due.with("0100055;1200106;2300157;3400058;4501209");
        x.set(2, 1, 0);
        x.forgive(7, 2);
        x.seen(1, 1, 1);
        x.seen(1, 1, 0);
        int[] due = {5, 39, 4, 2, 1, 1, 1, 2, 0};
        for (int what = 0; what <= 8; what++) {
            Due.is("count(" + what + ")", x.count(what), due[what]);
        }
        Due.is("count(-1)", x.count(-1), Due.BAD);
        Due.is("count(9)", x.count(9), Due.BAD);
        x.read(0);
        Due.is("count(8)", x.count(8), 1);
        x.read(9);
        Due.is("count(8) stays", x.count(8), 1);
    }

    private static void digest() {
        Due.is("digest() of a new one", new PromisesKept().digest(), ofNew());
        PromisesKept x = Due.with("0100055;1200406;2310507;3400058;4501209;5001303");
        x.set(0, 0, 2);
        x.set(2, 0, 0);
        x.after(2, 1, 1);
        x.after(3, 4, 1);
        x.after(4, 3, 1);
        x.forgive(3, 0);
        x.seen(10, 1, 1);
        Due.is("digest()", x.digest(), byCalls(x));
        long first = x.digest();
        x.read(0);
        Due.is("digest() but for count(8)", x.digest(), first);
        x.type(';');
        Due.is("digest() with a fault", x.digest(), byCalls(x));
        PromisesKept one = Due.with("0100319;1201419;2302503;3401604");
        one.set(0, 0, 1);
        Due.is("digest() of one slot", one.digest(), byCalls(one));
    }

    /** Every answer of a new object, in the document's order. */
    private static long ofNew() {
        long h = 17;
        int[] none = {0, 0, 0, 0, 0, 0, 0, 0, -1,
            0, 0, 0, 0, 0, 0, 0, 0, 0, 0, 0, 0, 0, 0, 0, 0, 0, 0,
            50, 9, -10002, 50, 9, 0, 50, 9, 0, 50, 9, 0, 50, 9, 0, 50, 9, 0,
            0, 0, 0, 0, 0, -1, 0, 0, 0, 15, 511, -1};
        for (int x : none) {
            h = 31 * h + x;
        }
        return h;
    }

    private static long byCalls(PromisesKept x) {
        long h = 17;
        for (int what = 0; what <= 7; what++) {
            h = 31 * h + x.count(what);
        }
        h = 31 * h + x.fault();
        int wants = x.count(0);
        for (int w = 0; w < wants; w++) {
            for (int n = 0; n < 9; n++) {
                h = 31 * h + (n < 5 ? x.want(w, n) : n < 8 ? x.made(w, n - 5) : x.depth(w));
            }
        }
        for (int day : new int[] {0, 10, 30}) {
            int[] of = {x.held(day), x.waiting(day), x.price(day), x.cleared(day), x.room(day, 1, 9, 0),
                x.room(day, 1, 9, 1)};
            for (int n : of) {
                h = 31 * h + n;
            }
        }
        for (int person = 0; person < 6; person++) {
            h = 31 * (31 * (31 * h + x.trust(person, 40)) + x.means(person, 40)) + x.owed(person, 0, 20);
        }
        int[] last = {x.gain(0), x.gain(1), x.gain(2), x.gain(3), x.best(), x.hoarder(), x.rings(), x.freed(0),
            x.freed(1), x.fits(0), x.fits(1), x.unlike(0, 1)};
        for (int n : last) {
            h = 31 * h + n;
        }
        return h;
    }
}
