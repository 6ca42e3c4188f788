/** Promises 1 to 10: a new object, wants, law. */
public final class WantsTest {
    private static final String TEN = "0100011;0100011;0100011;0100011;0100011;0100011;0100011;0100011;0100011;0100011";

    public static void main(String[] args) {
        newObject();
        type();
        wipe();
        fault();
        want();
        set();
        after();
        read();
        forgive();
        undo();
        Due.end();
    }

    private static void newObject() {
        PromisesKept x = new PromisesKept();
        for (int what = 0; what <= 8; what++) {
            Due.is("new count(" + what + ")", x.count(what), 0);
        }
        Due.is("new fault()", x.fault(), -1);
        for (int s = 0; s < 4; s++) {
            Due.is("new lose(" + s + ")", x.lose(s), Due.NULL);
        }
        Due.is("new slots", x.set(0, 0, 1), 3);
        Due.is("new law", x.set(1, 0, 1), 0);
        for (int person = 0; person < 6; person++) {
            Due.is("new means", x.set(2, person, 1), 9);
            Due.is("new trust", x.set(3, person, 1), 50);
        }
        for (int want = 0; want < 10; want++) {
            for (int other = 0; other < 10; other++) {
                Due.is("new after", x.after(want, other, 0), 0);
            }
        }
    }

    private static void type() {
        PromisesKept x = new PromisesKept();
        Due.is("type(-1)", x.type(-1), Due.BAD);
        Due.is("type(256)", x.type(256), Due.BAD);
        Due.is("type(0)", x.type(0), 1);
        Due.is("type(255)", x.type(255), 2);
        for (int n = 3; n <= 80; n++) {
            Due.is("type", x.type('0'), n);
        }
        Due.is("type, full", x.type('0'), Due.FULL);
        Due.is("type, bad ahead of full", x.type(256), Due.BAD);
        Due.is("bytes", x.count(1), 80);
    }

    private static void wipe() {
        PromisesKept x = Due.with("0100055");
        x.after(0, 1, 1);
        x.forgive(1, 0);
        x.seen(1, 0, 1);
        Due.is("held ahead of it", x.held(0), 1);
        Due.is("wipe()", x.wipe(), 7);
        Due.is("none is held behind it", x.held(0), 0);
        Due.is("fault() of an empty text", x.fault(), -1);
        Due.is("wipe() again", x.wipe(), 0);
        Due.is("wants", x.count(0), 0);
        Due.is("bytes", x.count(1), 0);
        Due.is("after stays", x.after(0, 1, 1), 1);
        Due.is("forgivings stay", x.count(6), 1);
        Due.is("seen stay", x.count(7), 1);
        Due.is("held", x.held(1), 0);
        Due.is("type anew", x.type('0'), 1);
    }

    private static void fault() {
        faultOf("", -1);
        faultOf("5", 1);
        faultOf("6", 0);
        faultOf("/", 0);
        faultOf(";", 0);
        faultOf(" ", 0);
        faultOf("\u00ff", 0);
        faultOf("\u0000", 0);
        faultOf("55", 1);
        faultOf("56", 1);
        faultOf("01;", 2);
        faultOf("010:", 3);
        faultOf("0199", 4);
        faultOf("0150/", 4);
        faultOf("01501", 5);
        faultOf("015010", 5);
        faultOf("015049", 5);
        faultOf("015050", 5);
        faultOf("01505:", 5);
        faultOf("015051", 6);
        faultOf("0150510", 6);
        faultOf("015051:", 6);
        faultOf("0150511", -1);
        faultOf("0199991", 5);
        faultOf("0198999", -1);
        faultOf("0000000", 1);
        faultOf("01505111", 7);
        faultOf("0150511;", 8);
        faultOf("0150511;;", 8);
        faultOf("0150511;1", 9);
        faultOf("0150511;11", 9);
        faultOf("0150511;1000019", -1);
        faultOf("0150511;1000009", 13);
        faultOf(TEN, -1);
        faultOf(TEN + ";", 80);
        faultOf(TEN + "0", 79);
        PromisesKept x = Due.with("0100055;");
        Due.is("with a fault there are none", x.count(0), 0);
        Due.is("none held", x.held(0), 0);
        Due.is("no want(0, 0)", x.want(0, 0), Due.BAD);
        Due.type(x, "1200099");
        Due.is("two", x.count(0), 2);
        Due.is("both held", x.held(0), 3);
        x.type('x');
        Due.is("none again", x.count(0), 0);
    }

    private static void faultOf(String text, int want) {
        PromisesKept x = Due.with(text);
        Due.is("fault of " + text, x.fault(), want);
        Due.is("wants of " + text, x.count(0), want == -1 ? (text.length() + 1) / 8 : 0);
    }

    private static void want() {
        PromisesKept x = Due.with("5098999;0112349");
        int[] due = {5, 0, 98, 99, 9, 0, 1, 12, 34, 9};
        for (int n = 0; n < 10; n++) {
            Due.is("want(" + n / 5 + ", " + n % 5 + ")", x.want(n / 5, n % 5), due[n]);
        }
        Due.is("want(2, 0)", x.want(2, 0), Due.BAD);
        Due.is("want(-1, 0)", x.want(-1, 0), Due.BAD);
        Due.is("want(0, 5)", x.want(0, 5), Due.BAD);
        Due.is("want(0, -1)", x.want(0, -1), Due.BAD);
    }

    private static void set() {
        PromisesKept x = new PromisesKept();
        int[][] bad = {{0, 0, 0}, {0, 0, 10}, {0, 1, 3}, {0, -1, 3}, {1, 0, -1}, {1, 0, 4}, {1, 1, 0}, {2, -1, 0},
            {2, 6, 0}, {2, 0, -1}, {2, 0, 10}, {3, -1, 0}, {3, 6, 0}, {3, 0, -1}, {3, 0, 100}, {4, 0, 1}, {-1, 0, 1}};
        for (int[] b : bad) {
            Due.is("set(" + b[0] + ", " + b[1] + ", " + b[2] + ")", x.set(b[0], b[1], b[2]), Due.BAD);
        }
        Due.is("set(0, 0, 9)", x.set(0, 0, 9), 3);
        Due.is("set(0, 0, 1)", x.set(0, 0, 1), 9);
        Due.is("set(1, 0, 3)", x.set(1, 0, 3), 0);
        Due.is("set(1, 0, 0)", x.set(1, 0, 0), 3);
        Due.is("set(2, 5, 0)", x.set(2, 5, 0), 9);
        Due.is("set(2, 5, 9)", x.set(2, 5, 9), 0);
        Due.is("set(3, 5, 99)", x.set(3, 5, 99), 50);
        Due.is("set(3, 5, 0)", x.set(3, 5, 0), 99);
        Due.is("set(3, 4, 0)", x.set(3, 4, 0), 50);
        Due.is("means(5, 0)", x.means(5, 0), 9);
        Due.is("trust(5, 0)", x.trust(5, 0), 0);
    }

    private static void after() {
        PromisesKept x = new PromisesKept();
        int[][] bad = {{-1, 0, 1}, {10, 0, 1}, {0, -1, 1}, {0, 10, 1}, {0, 0, -1}, {0, 0, 2}};
        for (int[] b : bad) {
            Due.is("after(" + b[0] + ", " + b[1] + ", " + b[2] + ")", x.after(b[0], b[1], b[2]), Due.BAD);
        }
        Due.is("after(9, 9, 1)", x.after(9, 9, 1), 0);
        Due.is("after(9, 9, 1)", x.after(9, 9, 1), 1);
        Due.is("after(9, 9, 0)", x.after(9, 9, 0), 1);
        Due.is("after(9, 9, 0)", x.after(9, 9, 0), 0);
        Due.is("after(0, 9, 1)", x.after(0, 9, 1), 0);
        Due.is("after(9, 0, 0)", x.after(9, 0, 0), 0);
        Due.is("after(0, 9, 0)", x.after(0, 9, 0), 1);
    }

    private static void read() {
        PromisesKept x = new PromisesKept();
        Due.is("read(-1)", x.read(-1), Due.BAD);
        Due.is("read(4)", x.read(4), Due.BAD);
        Due.is("read(0)", x.read(0), Due.NULL);
        Due.is("count(8)", x.count(8), 1);
        x.sheet(0, 2, 0);
        Due.is("read of none", x.read(0), 0);
        x.sheet(0, 2, 8);
        for (int i = 0; i < 8; i++) {
            x.put(0, 2, i, i + 1);
        }
        Due.is("read six", x.read(0), 6);
        Due.is("means(5, 0)", x.means(5, 0), 6);
        x.put(0, 2, 0, 0);
        x.put(0, 2, 1, 9);
        x.put(0, 2, 2, 10);
        Due.is("read two", x.read(0), 2);
        Due.is("means(0, 0)", x.means(0, 0), 0);
        Due.is("means(1, 0)", x.means(1, 0), 9);
        Due.is("means(2, 0) stays", x.means(2, 0), 3);
        Due.is("means(3, 0) stays", x.means(3, 0), 4);
        x.sheet(1, 0, 2);
        x.put(1, 0, 0, 7);
        x.put(1, 0, 1, -1);
        Due.is("read one", x.read(1), 1);
        Due.is("set tells what was read", x.set(2, 0, 1), 7);
    }

    private static void forgive() {
        PromisesKept x = new PromisesKept();
        Due.is("forgive(-1, 0)", x.forgive(-1, 0), Due.BAD);
        Due.is("forgive(100, 0)", x.forgive(100, 0), Due.BAD);
        Due.is("forgive(0, -1)", x.forgive(0, -1), Due.BAD);
        Due.is("forgive(0, 10)", x.forgive(0, 10), Due.BAD);
        for (int n = 1; n <= 8; n++) {
            Due.is("forgive", x.forgive(n == 1 ? 0 : 99, n == 1 ? 0 : 9), n);
        }
        Due.is("forgive, full", x.forgive(0, 0), Due.FULL);
        Due.is("forgive, bad ahead of full", x.forgive(100, 0), Due.BAD);
        Due.is("count(6)", x.count(6), 8);
        forgivenWhen(0, 5, 1);
        forgivenWhen(1, 1, 3);
        forgivenWhen(4, 4, 3);
        forgivenWhen(5, 5, 1);
        forgivenWhen(6, 5, 1);
    }

    /** A promise of day 0 to 5: nothing comes of a forgiving on day 0 and from day 5 on. */
    private static void forgivenWhen(int day, int ended, int how) {
        PromisesKept x = Due.with("0100055");
        x.forgive(day, 0);
        x.forgive(day, 1);
        Due.fate(x, 0, 0, ended, how);
        Due.is("trust", x.trust(0, 99), how == 1 ? 55 : 50);
        Due.is("means", x.means(0, 99), how == 1 ? 8 : 9);
    }

    private static void undo() {
        PromisesKept x = Due.with("0100055");
        Due.is("undo() of none", x.undo(), Due.NOT);
        x.forgive(3, 0);
        x.forgive(2, 0);
        Due.fate(x, 0, 0, 2, 3);
        Due.is("undo()", x.undo(), 1);
        Due.fate(x, 0, 0, 3, 3);
        Due.is("undo()", x.undo(), 0);
        Due.fate(x, 0, 0, 5, 1);
        Due.is("undo() of none", x.undo(), Due.NOT);
    }
}
