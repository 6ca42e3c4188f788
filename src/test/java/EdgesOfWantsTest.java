/** The bounds that the document tells of WANTS and their FAULT: a test for each sentence. */
public final class EdgesOfWantsTest {
    private static final String ONE = "0112345";
    private static final String NINE = "0100011;0100011;0100011;0100011;0100011;0100011;0100011;0100011;0100011";

    public static void main(String[] args) {
        upToEightyBytes();
        aByteIsFrom0To255();
        sevenFiguresForEach();
        tenAtMostFrom0On();
        semicolonsBetweenThem();
        everyByteAtEveryPlace("");
        everyByteAtEveryPlace(ONE + ";");
        everyByteAtEveryPlace(NINE + ";");
        toIsAnotherOne();
        dueIsLater();
        theFirstOfSeveralFaults();
        anEmptyTextIsWell();
        ofOneThatIsNotEndedItsEnd();
        anEleventh();
        withAFaultThereAreNone();
        noWantsInANewObject();
        wipedTextsAreEmpty();
        wantsAtTheirBounds();
        fiveHundredAndTwelveCalls();
        Due.end();
    }

    private static void faultIs(String text, int due) {
        PromisesKept x = Due.with(text);
        Due.is("fault of " + text, x.fault(), due);
        Due.is("wants of " + text, x.count(0), due == -1 ? (text.length() + 1) / 8 : 0);
        Due.is("bytes of " + text, x.count(1), text.length());
    }

    /** "WANTS are a text of up to 80 bytes": the eightieth comes, the next is refused. */
    private static void upToEightyBytes() {
        PromisesKept x = Due.with(NINE + ";010001");
        Due.is("78 bytes", x.count(1), 78);
        Due.is("the 79th byte", x.type('1'), 79);
        Due.is("ten wants", x.count(0), 10);
        Due.is("the 80th byte", x.type(';'), 80);
        Due.is("the 81st byte", x.type('0'), Due.FULL);
        Due.is("bytes behind the 81st", x.count(1), 80);
        Due.is("fault behind the 81st", x.fault(), 80);
        Due.is("wipe of 80", x.wipe(), 80);
        Due.is("a byte behind wipe", x.type('0'), 1);
    }

    /** "A byte (0 to 255)": any of them comes, though not each is well; none comes twice. */
    private static void aByteIsFrom0To255() {
        PromisesKept x = new PromisesKept();
        int[] not = {-1, 256, -128, 304, Integer.MIN_VALUE, Integer.MAX_VALUE};
        for (int b : not) {
            Due.is("type(" + b + ")", x.type(b), Due.BAD);
        }
        Due.is("bytes behind refusals", x.count(1), 0);
        Due.is("fault behind refusals", x.fault(), -1);
        Due.is("type(0)", x.type(0), 1);
        Due.is("type(255)", x.type(255), 2);
        for (int b = 0; b < 256; b++) {
            PromisesKept one = new PromisesKept();
            Due.is("type(" + b + ") first", one.type(b), 1);
        }
    }

    /** "seven figures for each": one fewer is no want, one more is none either. */
    private static void sevenFiguresForEach() {
        faultIs(ONE.substring(0, 6), 6);
        faultIs(ONE, -1);
        faultIs(ONE + "1", 7);
        faultIs(ONE + ";" + ONE.substring(0, 6), 14);
        faultIs(ONE + ";" + ONE, -1);
        faultIs(ONE + ";" + ONE + "1", 15);
    }

    /** "10 at most (0 on)": the numbers are 0 to 9. */
    private static void tenAtMostFrom0On() {
        PromisesKept x = Due.with(NINE);
        Due.is("nine", x.count(0), 9);
        Due.is("want(8, 4) of nine", x.want(8, 4), 1);
        Due.is("want(9, 4) of nine", x.want(9, 4), Due.BAD);
        Due.type(x, ";5498999");
        Due.is("ten", x.count(0), 10);
        int[] last = {5, 4, 98, 99, 9};
        for (int what = 0; what < 5; what++) {
            Due.is("want(9, " + what + ")", x.want(9, what), last[what]);
        }
        Due.is("want(10, 0)", x.want(10, 0), Due.BAD);
        Due.is("want(-1, 0)", x.want(-1, 0), Due.BAD);
    }

    /** "with ; between them": not ahead of the first, not behind the last, not twice, no other sign. */
    private static void semicolonsBetweenThem() {
        faultIs(";" + ONE, 0);
        faultIs(ONE + ";", 8);
        faultIs(ONE + ";;" + ONE, 8);
        faultIs(ONE + ":" + ONE, 7);
        faultIs(ONE + "," + ONE, 7);
        faultIs(ONE + " " + ONE, 7);
        faultIs(ONE + ONE, 7);
        faultIs(ONE.substring(0, 6) + ";" + ONE, 6);
    }

    /** WHO 0 to 5, TO 0 to 5, two figures, two figures, WORTH 1 to 9, then ;: of all bytes these alone. */
    private static void everyByteAtEveryPlace(String ahead) {
        String[] well = {"012345", "12345", "0123456789", "0123456789", "0123456789", "0123456789", "123456789", ";"};
        int places = ahead.length() + 8 > 80 ? 7 : 8;
        for (int place = 0; place < places; place++) {
            String start = ahead + ONE.substring(0, Math.min(7, place));
            for (int b = 0; b < 256; b++) {
                boolean goesOn = well[place].indexOf(b) >= 0;
                int end = place == 6 ? -1 : start.length() + 1;
                faultIs(start + (char) b, goesOn ? end : start.length());
            }
        }
    }

    /** "TO whom (0 to 5, another one)", FAULT "of TO, if it is WHO". */
    private static void toIsAnotherOne() {
        for (int who = 0; who < 6; who++) {
            for (int to = 0; to < 6; to++) {
                faultIs("" + who + to + "12345", who == to ? 1 : -1);
                faultIs(ONE + ";" + who + to + "12345", who == to ? 9 : -1);
            }
        }
        faultIs("33", 1);
        faultIs("3", 1);
    }

    /** "DUE (later)", FAULT "of the second figure of DUE, if it is not later than ASKED". */
    private static void dueIsLater() {
        faultIs("0100001", 5);
        faultIs("0100011", -1);
        faultIs("0150491", 5);
        faultIs("0150501", 5);
        faultIs("0150511", -1);
        faultIs("0109091", 5);
        faultIs("0109101", -1);
        faultIs("0110091", 5);
        faultIs("0198981", 5);
        faultIs("0198991", -1);
        faultIs("0199991", 5);
        faultIs("0199001", 5);
        faultIs("015", 3);
        faultIs("01504", 5);
        faultIs("01500", 5);
        faultIs("0150;", 4);
        faultIs("01504;", 5);
        faultIs("01505/", 5);
    }

    /** "the first byte with which it cannot go on". */
    private static void theFirstOfSeveralFaults() {
        faultIs("6699000", 0);
        faultIs("0099000", 1);
        faultIs("01x9000", 2);
        faultIs("019x000", 3);
        faultIs("0199x00", 4);
        faultIs("0199000", 5);
        faultIs("0198990", 6);
        faultIs("0198999x;", 7);
        faultIs("0198999;6000000", 8);
        faultIs("0198990;6000000", 6);
    }

    /** "an empty text is well". */
    private static void anEmptyTextIsWell() {
        PromisesKept x = new PromisesKept();
        Due.is("fault of a new one", x.fault(), -1);
        x.type('x');
        Due.is("fault of x", x.fault(), 0);
        x.wipe();
        Due.is("fault of one that was wiped", x.fault(), -1);
        Due.is("no wants", x.count(0), 0);
    }

    /** "of one that is not ended, its end": at each length. */
    private static void ofOneThatIsNotEndedItsEnd() {
        PromisesKept x = new PromisesKept();
        String ten = NINE + ";0100011;";
        for (int n = 0; n < 80; n++) {
            x.type(ten.charAt(n));
            boolean ended = n % 8 == 6;
            Due.is("fault of " + (n + 1) + " bytes", x.fault(), ended ? -1 : n + 1);
            Due.is("wants of " + (n + 1) + " bytes", x.count(0), ended ? n / 8 + 1 : 0);
        }
    }

    /** "or of the first byte of an eleventh": it would stand at 80, the text's end. */
    private static void anEleventh() {
        faultIs(NINE + ";0100011", -1);
        faultIs(NINE + ";0100011;", 80);
        faultIs(NINE + ";01000110", 79);
        PromisesKept x = Due.with(NINE + ";0100011;0");
        Due.is("fault with a byte refused", x.fault(), 80);
        Due.is("wants with a byte refused", x.count(0), 0);
    }

    /** "With a FAULT there are none." */
    private static void withAFaultThereAreNone() {
        PromisesKept x = Due.with("0100105;1200203");
        x.set(0, 0, 1);
        x.after(0, 0, 1);
        x.forgive(3, 0);
        Due.is("held ahead of the fault", x.held(2), 1);
        Due.is("waiting ahead of the fault", x.waiting(2), 2);
        x.type('9');
        Due.is("the fault", x.fault(), 15);
        Due.is("bytes", x.count(1), 16);
        String[] bad = {"want 0 0", "made 0 0", "without 0 0 0", "depth 0"};
        for (String call : bad) {
            Due.is(call + " with a fault", Calls.answer(x, call), Due.BAD);
        }
        String[] nought = {"count 0", "count 2", "count 3", "count 4", "count 5", "held 2", "waiting 2", "price 2", "cleared 2",
            "owed 0 1 2", "rings", "freed 0", "freed 1", "gain 0", "gain 3", "best", "room 2 1 0 0", "room 2 1 0 1"};
        for (String call : nought) {
            Due.is(call + " with a fault", Calls.answer(x, call), 0);
        }
        Due.is("hoarder with a fault", x.hoarder(), -1);
        Due.is("unlike with a fault", x.unlike(0, 1), -1);
        Due.is("trust with a fault", x.trust(0, 99), 50);
        Due.is("means with a fault", x.means(0, 99), 9);
        Due.is("fits with a fault", x.fits(0), 15);
    }

    /** Promise 1: "No WANTS; all SHEETS are LOST." */
    private static void noWantsInANewObject() {
        PromisesKept x = new PromisesKept();
        Due.is("new wants", x.count(0), 0);
        Due.is("new bytes", x.wipe(), 0);
        for (int s = 0; s < 4; s++) {
            Due.is("new sheet " + s, x.read(s), Due.NULL);
        }
        PromisesKept other = Due.with(ONE);
        other.sheet(0, 0, 1);
        other.set(0, 0, 9);
        Due.is("a new one has nothing of another one", new PromisesKept().count(1), 0);
        Due.is("nor its sheets", new PromisesKept().lose(0), Due.NULL);
        Due.is("nor its slots", new PromisesKept().set(0, 0, 9), 3);
    }

    /** "WANTS are empty: how many bytes they had": 0 of none, 80 of a full one, with a FAULT or without. */
    private static void wipedTextsAreEmpty() {
        int[] lengths = {0, 1, 7, 8, 79, 80};
        for (int n : lengths) {
            PromisesKept x = Due.with((NINE + ";0100011;").substring(0, n));
            int held = n % 8 == 7 ? 1 : 0;
            Due.is("held(0) of " + n, x.held(0) & 1, held);
            Due.is("wipe of " + n, x.wipe(), n);
            Due.is("held(0) behind wipe", x.held(0), 0);
            Due.is("wipe again", x.wipe(), 0);
            Due.is("fault behind wipe", x.fault(), -1);
            Due.is("wants behind wipe", x.count(0), 0);
            Due.type(x, "1000029");
            Due.is("typed anew, want(0, 4)", x.want(0, 4), 9);
            Due.is("typed anew, how many", x.count(0), 1);
            Due.is("typed anew, held(1)", x.held(1), 1);
        }
    }

    /** The least and the greatest of each figure, told by want(). */
    private static void wantsAtTheirBounds() {
        PromisesKept x = Due.with("0100011;5098999");
        int[] due = {0, 1, 0, 1, 1, 5, 0, 98, 99, 9};
        for (int n = 0; n < 10; n++) {
            Due.is("want(" + n / 5 + ", " + n % 5 + ")", x.want(n / 5, n % 5), due[n]);
        }
        Due.is("want(0, -1)", x.want(0, -1), Due.BAD);
        Due.is("want(0, 5)", x.want(0, 5), Due.BAD);
        Due.is("want(2, 0)", x.want(2, 0), Due.BAD);
    }

    /** "An object is used for at most 512 calls": the last of them is answered as the first. */
    private static void fiveHundredAndTwelveCalls() {
        PromisesKept x = Due.with(NINE + ";0100011");
        for (int n = 79; n < 510; n++) {
            x.held(n % 100);
        }
        Due.is("call 511", x.set(0, 0, 9), 3);
        PromisesKept few = Due.with(NINE + ";0100011");
        few.set(0, 0, 9);
        Due.is("call 512", x.digest(), few.digest());
    }
}
