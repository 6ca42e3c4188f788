/** Promises 25 to 30: seen, forget, fits, unlike, owed, cleared. */
public final class SeenTest {
    public static void main(String[] args) {
        seen();
        fits();
        unlike();
        owed();
        cleared();
        Due.end();
    }

    private static void seen() {
        PromisesKept x = new PromisesKept();
        int[][] bad = {{-1, 0, 1}, {100, 0, 1}, {0, -1, 1}, {0, 10, 1}, {0, 0, -1}, {0, 0, 2}};
        for (int[] b : bad) {
            Due.is("seen(" + b[0] + ", " + b[1] + ", " + b[2] + ")", x.seen(b[0], b[1], b[2]), Due.BAD);
        }
        Due.is("forget() of none", x.forget(), 0);
        for (int n = 1; n <= 8; n++) {
            Due.is("seen", x.seen(99, 9, 0), n);
        }
        Due.is("seen, full", x.seen(0, 0, 0), Due.FULL);
        Due.is("seen, bad ahead of full", x.seen(0, 0, 2), Due.BAD);
        Due.is("count(7)", x.count(7), 8);
        Due.is("forget()", x.forget(), 8);
        Due.is("forget() again", x.forget(), 0);
        Due.is("seen anew", x.seen(0, 0, 0), 1);
    }

    private static void fits() {
        PromisesKept x = Due.with("0100055;1201201;2301109;3401302");
        x.set(0, 0, 1);
        Due.is("fits(-1)", x.fits(-1), Due.BAD);
        Due.is("fits(2)", x.fits(2), Due.BAD);
        Due.is("fits(0) by nothing", x.fits(0), 15);
        Due.is("fits(1) by nothing", x.fits(1), 511);
        x.seen(5, 2, 1);
        Due.is("fits(0)", x.fits(0), 2 + 4);
        Due.is("fits(1), law 0", x.fits(1), 511 - 1 - 2 + 2);
        x.seen(10, 1, 0);
        Due.is("fits(0), torn", x.fits(0), 2);
        x.forget();
        x.seen(5, 0, 0);
        Due.is("fits(0), ended that day", x.fits(0), 15);
        x.seen(4, 0, 1);
        Due.is("fits(0), held the day ahead", x.fits(0), 15);
        x.seen(9, 9, 0);
        Due.is("fits(0), one that there is not, not held", x.fits(0), 15);
        x.seen(9, 9, 1);
        Due.is("fits(0), one that there is not, held", x.fits(0), 0);
        Due.is("fits(1), one that there is not, held", x.fits(1), 0);
        x.forget();
        x.seen(1, 3, 0);
        x.seen(1, 2, 1);
        Due.is("fits(1): three slots alone", x.fits(1), 4);
        x.set(1, 0, 1);
        Due.is("fits(1), law 1: two and three", x.fits(1), 2);
        Due.is("slots are not changed", x.set(0, 0, 1), 1);
        Due.is("law is not changed", x.set(1, 0, 0), 1);
    }

    private static void unlike() {
        PromisesKept x = Due.with("0100055;1201201;2301109;3401302");
        x.set(0, 0, 1);
        Due.is("unlike(0, 1)", x.unlike(0, 1), 5);
        Due.is("unlike(1, 0)", x.unlike(1, 0), 5);
        Due.is("unlike(1, 2)", x.unlike(1, 2), 10);
        Due.is("unlike(0, 3)", x.unlike(0, 3), -1);
        Due.is("unlike(2, 2)", x.unlike(2, 2), -1);
        x.set(3, 3, 51);
        Due.is("unlike(0, 3), trusted", x.unlike(0, 3), 5);
        x.set(0, 0, 9);
        Due.is("unlike(0, 1), slots enough", x.unlike(0, 1), -1);
        int[] noLaws = {-1, 4};
        for (int law : noLaws) {
            Due.is("unlike(" + law + ", 0)", x.unlike(law, 0), Due.BAD);
            Due.is("unlike(0, " + law + ")", x.unlike(0, law), Due.BAD);
        }
    }

    private static void owed() {
        PromisesKept x = Due.with("0100205;1000107;0100302;2000204");
        x.set(0, 0, 9);
        Due.is("owed(0, 1, 0)", x.owed(0, 1, 0), 0);
        Due.is("owed(0, 1, 10)", x.owed(0, 1, 10), 7);
        Due.is("owed(1, 0, 10)", x.owed(1, 0, 10), -7);
        Due.is("owed(0, 1, 20)", x.owed(0, 1, 20), 2);
        Due.is("owed(2, 0, 19)", x.owed(2, 0, 19), 4);
        Due.is("owed(0, 2, 19)", x.owed(0, 2, 19), -4);
        Due.is("owed(1, 2, 0)", x.owed(1, 2, 0), 0);
        int[][] bad = {{-1, 0, 0}, {6, 0, 0}, {0, -1, 0}, {0, 6, 0}, {0, 1, -1}, {0, 1, 100}, {0, 0, 0}, {5, 5, 99}};
        for (int[] b : bad) {
            Due.is("owed(" + b[0] + ", " + b[1] + ", " + b[2] + ")", x.owed(b[0], b[1], b[2]), Due.BAD_NUMBER);
        }
    }

    private static void cleared() {
        PromisesKept x = Due.with("0100205;1000107;0100302;1200204;2000204");
        x.set(0, 0, 9);
        Due.is("cleared(0): a round is not cleared, a pair is", x.cleared(0), 8);
        Due.is("cleared(10)", x.cleared(10), 7 + 4 + 4);
        Due.is("cleared(20)", x.cleared(20), 2);
        Due.is("cleared(30)", x.cleared(30), 0);
        Due.is("cleared(-1)", x.cleared(-1), Due.BAD);
        Due.is("cleared(100)", x.cleared(100), Due.BAD);
    }
}
