/** Promises 19 to 24: room, price, hoarder, rings, freed, depth. */
public final class SlotsTest {
    private static final String EIGHT =
        "0100055;1200055;2300055;3400055;4500055;5000055;0200055;1300055";

    public static void main(String[] args) {
        room();
        roomBounds();
        price();
        hoarder();
        rings();
        freed();
        depth();
        Due.end();
    }

    private static void room() {
        PromisesKept x = Due.with("0100504;1200502;2100502;3100504;4100503");
        x.set(0, 0, 5);
        roomIs(x, 1, 99, 2, 2);
        roomIs(x, 2, 99, 4, 6);
        roomIs(x, 3, 99, 7, 22);
        roomIs(x, 3, 6, 7, 22);
        roomIs(x, 3, 5, 7, 22);
        roomIs(x, 3, 4, -1, -1);
        roomIs(x, 2, 4, 4, 6);
        roomIs(x, 2, 2, 4, 6);
        roomIs(x, 1, 1, -1, -1);
        roomIs(x, 4, 99, 11, 23);
        roomIs(x, 5, 13, 15, 31);
        roomIs(x, 5, 12, -1, -1);
        roomIs(x, 6, 99, -1, -1);
        x.set(0, 0, 7);
        roomIs(x, 2, 0, 0, 0);
        roomIs(x, 3, 99, 2, 2);
        PromisesKept like = Due.with("0100503;1200503;2300506");
        roomIs(like, 1, 99, 3, 1);
        roomIs(like, 2, 99, 6, 3);
        PromisesKept same = Due.with("0100509;1000504;2100505");
        roomIs(same, 2, 9, 9, 6);
        Due.is("room on a day with none", same.room(50, 3, 0, 0), 0);
    }

    private static void roomIs(PromisesKept x, int k, int most, int worth, int bits) {
        Due.is("room(0, " + k + ", " + most + ", 0)", x.room(0, k, most, 0), worth);
        Due.is("room(0, " + k + ", " + most + ", 1)", x.room(0, k, most, 1), bits);
    }

    private static void roomBounds() {
        PromisesKept x = new PromisesKept();
        int[][] bad = {{-1, 1, 0, 0}, {100, 1, 0, 0}, {0, 0, 0, 0}, {0, 10, 0, 0}, {0, 1, -1, 0}, {0, 1, 100, 0},
            {0, 1, 0, -1}, {0, 1, 0, 2}};
        for (int[] b : bad) {
            Due.is("room(" + b[0] + ", " + b[1] + ", " + b[2] + ", " + b[3] + ")",
                x.room(b[0], b[1], b[2], b[3]), Due.BAD);
        }
        x.set(0, 0, 9);
        Due.is("room(99, 9, 99, 1)", x.room(99, 9, 99, 1), 0);
    }

    private static void price() {
        PromisesKept x = Due.with("0100509;1201303;2301207;3401204");
        x.set(0, 0, 1);
        Due.is("price(0)", x.price(0), 0);
        Due.is("price(1)", x.price(1), 7);
        Due.is("price(20)", x.price(20), 3);
        Due.is("price(30)", x.price(30), 0);
        Due.is("price(-1)", x.price(-1), Due.BAD);
        Due.is("price(100)", x.price(100), Due.BAD);
    }

    private static void hoarder() {
        Due.is("hoarder() of none", new PromisesKept().hoarder(), -1);
        Due.is("hoarder()", Due.with("2100055;1200065").hoarder(), 1);
        Due.is("hoarder(), of like ones", Due.with("2100055;1200055").hoarder(), 1);
        PromisesKept x = Due.with("0100105;1000055;1200065;2300115");
        x.set(0, 0, 9);
        Due.is("hoarder(), as many days in two as in one", x.hoarder(), 1);
        Due.is("hoarder(), the day of the end is not counted",
            Due.with("0100065;1000035;1200035").hoarder(), 0);
        x.forgive(3, 3);
        x.forgive(3, 2);
        Due.is("hoarder(), forgiven early", x.hoarder(), 0);
        PromisesKept one = Due.with("0101105;1201995");
        one.set(0, 0, 1);
        Due.is("hoarder(), from when it was made", one.hoarder(), 1);
        one.forgive(12, 1);
        Due.is("hoarder(), till it was forgiven", one.hoarder(), 0);
    }

    private static void rings() {
        PromisesKept x = Due.with(EIGHT);
        Due.is("rings() of none", x.rings(), 0);
        x.after(0, 1, 1);
        x.after(1, 2, 1);
        x.after(2, 1, 1);
        x.after(2, 3, 1);
        x.after(5, 5, 1);
        Due.is("rings()", x.rings(), 2 + 4 + 32);
        x.after(7, 9, 1);
        x.after(9, 7, 1);
        x.after(8, 8, 1);
        Due.is("rings() of wants that there are", x.rings(), 2 + 4 + 32);
        x.type(';');
        Due.is("rings() with a fault", x.rings(), 0);
        PromisesKept all = Due.with(EIGHT);
        for (int w = 0; w < 8; w++) {
            all.after(w, (w + 1) % 8, 1);
        }
        Due.is("rings() of all", all.rings(), 255);
    }

    private static void freed() {
        PromisesKept x = Due.with(EIGHT);
        freedIs(x, 0, 0);
        x.after(0, 1, 1);
        x.after(1, 2, 1);
        x.after(2, 1, 1);
        x.after(2, 0, 1);
        freedIs(x, 1, 2);
        x.after(3, 2, 1);
        x.after(2, 3, 1);
        freedIs(x, 1, 4);
        x.after(7, 7, 1);
        freedIs(x, 2, 4 + 128);
        PromisesKept like = Due.with(EIGHT);
        like.after(3, 6, 1);
        like.after(6, 3, 1);
        freedIs(like, 1, 8);
        PromisesKept full = Due.with(EIGHT);
        for (int w = 0; w < 10; w++) {
            for (int other = 0; other < 10; other++) {
                full.after(w, other, w == other ? 0 : 1);
            }
        }
        freedIs(full, 7, 127);
        Due.is("freed(-1)", x.freed(-1), Due.BAD);
        Due.is("freed(2)", x.freed(2), Due.BAD);
    }

    private static void freedIs(PromisesKept x, int many, int bits) {
        Due.is("freed(0)", x.freed(0), many);
        Due.is("freed(1)", x.freed(1), bits);
    }

    private static void depth() {
        PromisesKept x = Due.with(EIGHT);
        Due.is("depth(0) alone", x.depth(0), 1);
        x.after(0, 1, 1);
        x.after(0, 2, 1);
        x.after(2, 1, 1);
        x.after(1, 3, 1);
        x.after(1, 9, 1);
        Due.is("depth(0)", x.depth(0), 4);
        Due.is("depth(2)", x.depth(2), 3);
        Due.is("depth(1)", x.depth(1), 2);
        x.after(4, 5, 1);
        x.after(5, 5, 1);
        Due.is("depth(4)", x.depth(4), -1);
        Due.is("depth(5)", x.depth(5), -1);
        Due.is("depth(0) stays", x.depth(0), 4);
        Due.is("depth(-1)", x.depth(-1), Due.BAD);
        Due.is("depth(8)", x.depth(8), Due.BAD);
        PromisesKept row = Due.with(EIGHT + ";2400055;3500055");
        for (int w = 0; w < 9; w++) {
            row.after(w, w + 1, 1);
        }
        Due.is("depth(0) of ten", row.depth(0), 10);
        Due.is("rings() of ten in a row", row.rings(), 0);
        row.after(9, 0, 1);
        Due.is("depth(0) in a ring of ten", row.depth(0), -1);
        Due.is("rings() of ten", row.rings(), 1023);
        Due.is("freed(1) of ten", row.freed(1), 1);
    }
}
