/** What the tests share: answers that are compared, and wants that are typed. */
final class Due {
    static final int BAD = -2, NOT = -3, FULL = -4, NULL = -11, INDEX = -12, CAST = -13, STORE = -14, SIZE = -15;
    static final int BAD_NUMBER = -10002;

    private static int wrong = 0;
    private static int all = 0;

    private Due() {
    }

    static void is(String call, long got, long want) {
        all++;
        if (got != want) {
            wrong++;
            System.out.println(call + " answered " + got + ", due is " + want);
        }
    }

    static PromisesKept with(String text) {
        PromisesKept x = new PromisesKept();
        type(x, text);
        return x;
    }

    static void type(PromisesKept x, String text) {
        for (int i = 0; i < text.length(); i++) {
            x.type(text.charAt(i));
        }
    }

    /** The three answers of made() for a want, compared at once. */
    static void fate(PromisesKept x, int want, int made, int ended, int how) {
        is("made(" + want + ", 0)", x.made(want, 0), made);
        is("made(" + want + ", 1)", x.made(want, 1), ended);
        is("made(" + want + ", 2)", x.made(want, 2), how);
    }

    static void end() {
        System.out.println(all + " answers, " + wrong + " not as due");
        if (wrong != 0) {
            System.exit(1);
        }
    }
}
