import java.util.List;

/**
 * The paragraph "Refusals" and the refusals of each call: which comes first, that it changes nothing,
 * that a FINDING changes count() 8 alone. Each refused call is made on one of two like objects.
 */
public final class RefusalsTest {
    private static final int LEAST = Integer.MIN_VALUE;
    private static final int MOST = Integer.MAX_VALUE;
    private static final int EMPTY = 0, MIDDLE = 1, FULL = 2;

    /** Of each call the least and the most that each number may be, in the state MIDDLE. */
    private static final String[] BOUNDS = {
        "type 0..255", "want 0..2 0..4", "set 0..0 0..0 1..9", "set 1..1 0..0 0..3", "set 2..2 0..5 0..9",
        "set 3..3 0..5 0..99", "after 0..9 0..9 0..1", "read 0..3", "forgive 0..99 0..9", "held 0..99", "waiting 0..99",
        "trust 0..5 0..99", "means 0..5 0..99", "made 0..2 0..2", "without 0..1 0..2 0..2", "gain 0..3",
        "room 0..99 1..9 0..99 0..1", "price 0..99", "freed 0..1", "depth 0..2", "seen 0..99 0..9 0..1", "fits 0..1",
        "unlike 0..3 0..3", "owed 0..4 5..5 0..99", "owed 5..5 0..4 0..99", "cleared 0..99", "sheet 0..3 0..2 0..48",
        "lose 0..3", "put 0..3 0..2 * *", "get 0..3 0..2 *", "copy 0..3 * 0..3 * *", "write 0..99 0..3", "count 0..8"};

    public static void main(String[] args) {
        constants();
        for (String bounds : BOUNDS) {
            boundsOf(bounds);
        }
        badComesFirst();
        nullComesNext();
        notComesWhenThereIsNone();
        fullComesBehindBad();
        otherFindingsComeLast();
        whatIsNotRefusedLeavesTheLatestFinding();
        answersOnlyChangeNothing();
        Due.end();
    }

    /** "BAD -2", "NOT -3", "FULL -4", and NONE, as the face has them. */
    private static void constants() {
        Due.is("NONE", PromisesKept.NONE, -1);
        Due.is("BAD", PromisesKept.BAD, -2);
        Due.is("NOT", PromisesKept.NOT, -3);
        Due.is("FULL", PromisesKept.FULL, -4);
    }

    private static PromisesKept in(int state) {
        PromisesKept x = new PromisesKept();
        if (state == MIDDLE) {
            Due.type(x, "0100205;1201099;2302307");
            Calls.all(x, "set 0 0 1", "set 1 0 2", "set 2 3 4", "set 3 5 60", "after 1 0 1", "after 7 7 1", "forgive 3 0",
                "forgive 6 1", "seen 1 0 1", "seen 4 1 1", "sheet 0 0 3", "put 0 0 2 -7", "sheet 1 1 4", "put 1 1 0 300",
                "sheet 2 2 48", "put 2 2 47 70000");
        }
        if (state == FULL) {
            for (int n = 0; n < 80; n++) {
                x.type("0100205;1201099;".charAt(n % 16));
            }
            for (int n = 0; n < 8; n++) {
                Calls.all(x, "forgive " + (n + 3) + " " + n, "seen " + n + " " + n + " 1");
            }
            Calls.all(x, "sheet 0 0 48", "sheet 1 0 48", "sheet 2 0 0", "sheet 3 2 48");
        }
        x.sheet(0, 0, -1);
        return x;
    }

    /** The call answers what is due; but for count() 8 its object is as one on which it was not made. */
    private static void refused(int state, String call, long due, int finding) {
        PromisesKept x = in(state);
        Due.is(call + " in state " + state, Calls.answer(x, call), due);
        Due.is("count 8 behind " + call + " in state " + state, x.count(8), finding);
        List<Long> as = Snapshot.of(in(state));
        Due.is("what is behind " + call + " in state " + state, Snapshot.of(x).equals(as) ? 1 : 0, 1);
    }

    /** SIZE was the latest finding ahead of it, and stays so. */
    private static void bad(int state, String call) {
        refused(state, call, badOf(call), 5);
    }

    /** "Where any number is told, a refusal is -10000 less x"; of get() it is the least int. */
    private static long badOf(String call) {
        String name = call.split(" ")[0];
        boolean anyNumber = name.equals("trust") || name.equals("gain") || name.equals("owed");
        return anyNumber ? Due.BAD_NUMBER : name.equals("get") ? LEAST : Due.BAD;
    }

    private static void finds(int state, String call, int finding) {
        refused(state, call, call.startsWith("get") ? LEAST : -10 - finding, finding);
    }

    /** Each number at its bounds, and just beyond, with all others at their least and at their most. */
    private static void boundsOf(String bounds) {
        String[] words = bounds.split(" ");
        for (int at = 1; at < words.length; at++) {
            if (words[at].equals("*")) {
                continue;
            }
            int least = least(words[at]);
            int most = most(words[at]);
            for (boolean high : new boolean[] {false, true}) {
                isTaken(with(words, at, least, high));
                isTaken(with(words, at, most, high));
                beyond(words, at, least, most, high);
            }
        }
    }

    private static void beyond(String[] words, int at, int least, int most, boolean high) {
        boolean pickedByThis = words[0].equals("set") && at == 1 || words[0].equals("owed") && least == most;
        boolean size = words[0].equals("sheet") && at == 3;
        if (!pickedByThis && !size) {
            bad(MIDDLE, with(words, at, least - 1, high));
            bad(MIDDLE, with(words, at, LEAST, high));
        }
        if (!pickedByThis) {
            bad(MIDDLE, with(words, at, most + 1, high));
            bad(MIDDLE, with(words, at, MOST, high));
        }
    }

    private static int least(String word) {
        return word.equals("*") ? 0 : Integer.parseInt(word.split("\\.\\.")[0]);
    }

    private static int most(String word) {
        return word.equals("*") ? 0 : Integer.parseInt(word.split("\\.\\.")[1]);
    }

    private static String with(String[] words, int at, int number, boolean high) {
        StringBuilder call = new StringBuilder(words[0]);
        for (int i = 1; i < words.length; i++) {
            int other = high ? most(words[i]) : least(words[i]);
            call.append(' ').append(i == at ? number : other);
        }
        return call.toString();
    }

    private static void isTaken(String call) {
        PromisesKept x = in(MIDDLE);
        boolean isGet = call.startsWith("get");
        long answer = Calls.answer(x, call);
        boolean none = isGet && x.count(8) != 5;
        Due.is(call + " is refused as BAD", answer == badOf(call) && !none ? 1 : 0, 0);
    }

    /** "the first that fits, in the order told at each act: BAD .." */
    private static void badComesFirst() {
        String[] none = {"set -1 0 1", "set 4 0 1", "set 0 1 3", "set 0 -1 3", "set 1 1 0", "set 1 -1 0", "owed 0 0 0",
            "owed 5 5 99", "owed 0 6 0", "owed 6 0 0", "owed -1 0 0", "owed 0 -1 0", "without 2 0 0", "want 3 0", "made 3 0",
            "depth 3"};
        for (String call : none) {
            bad(MIDDLE, call);
        }
        String[] ofNoWants = {"want 0 0", "made 0 0", "depth 0", "without 0 0 0"};
        for (String call : ofNoWants) {
            bad(EMPTY, call);
            bad(FULL, call);
        }
        String[] aheadOfNull = {"read 4", "read -1", "lose 4", "put 0 3 -1 0", "put 4 0 0 0", "put 0 -1 0 0", "get 0 3 0",
            "get -1 0 0", "copy 0 0 4 0 0", "copy 4 0 0 0 0", "copy -1 -1 0 -1 -1", "copy 0 -1 -1 -1 -1", "write 100 0",
            "write -1 3", "write 0 4"};
        for (String call : aheadOfNull) {
            bad(EMPTY, call);
        }
        String[] aheadOfFull = {"type 256", "type -1", "forgive 100 0", "forgive 0 10", "seen 0 0 2", "seen 100 0 0",
            "seen 0 10 0"};
        for (String call : aheadOfFull) {
            bad(FULL, call);
        }
        String[] aheadOfOthers = {"sheet 4 0 -1", "sheet 0 3 -1", "sheet -1 -1 -1", "sheet 0 0 49", "put 0 3 48 0",
            "get 0 3 48", "copy 0 0 4 48 1"};
        for (String call : aheadOfOthers) {
            bad(FULL, call);
        }
    }

    /** "NULL: the SHEET is LOST" comes ahead of CAST, STORE and INDEX, whichever of two SHEETS it is. */
    private static void nullComesNext() {
        String[] ofLost = {"read 3", "lose 3", "put 3 0 0 0", "put 3 2 -1 0", "put 3 1 48 0", "get 3 0 0", "get 3 2 -1",
            "copy 3 0 0 0 0", "copy 0 0 3 0 0", "copy 3 0 3 0 0", "copy 3 -1 0 -1 -1", "copy 0 9 3 9 9", "write 0 3",
            "write 99 3"};
        for (String call : ofLost) {
            finds(MIDDLE, call, 1);
        }
        for (int s = 0; s < 4; s++) {
            finds(EMPTY, "lose " + s, 1);
            finds(EMPTY, "read " + s, 1);
            finds(EMPTY, "write 0 " + s, 1);
            finds(EMPTY, "put " + s + " 0 0 0", 1);
            finds(EMPTY, "get " + s + " 0 0", 1);
            finds(EMPTY, "copy " + s + " 0 " + s + " 0 0", 1);
        }
    }

    /** "NOT: there is none", and only then. */
    private static void notComesWhenThereIsNone() {
        refused(EMPTY, "undo", Due.NOT, 5);
        PromisesKept x = in(MIDDLE);
        Due.is("undo of two", x.undo(), 1);
        Due.is("undo of one", x.undo(), 0);
        Due.is("undo of none", x.undo(), Due.NOT);
        Due.is("undo of none again", x.undo(), Due.NOT);
        Due.is("a forgiving behind it", x.forgive(0, 0), 1);
    }

    /** FULL: 80 bytes, 8 FORGIVINGS, 8 SEEN. */
    private static void fullComesBehindBad() {
        String[] calls = {"type 0", "type 48", "type 255", "forgive 0 0", "forgive 99 9", "seen 0 0 0", "seen 99 9 1"};
        for (String call : calls) {
            refused(FULL, call, Due.FULL, 5);
        }
    }

    /** "other FINDINGS" come behind all else: CAST ahead of INDEX, STORE ahead of INDEX. */
    private static void otherFindingsComeLast() {
        finds(MIDDLE, "put 0 1 0 0", 3);
        finds(MIDDLE, "put 0 2 -1 0", 3);
        finds(MIDDLE, "put 2 0 48 0", 3);
        finds(MIDDLE, "get 1 0 0", 3);
        finds(MIDDLE, "get 1 2 4", 3);
        finds(MIDDLE, "get 2 1 " + LEAST, 3);
        finds(MIDDLE, "copy 0 0 1 0 1", 4);
        finds(MIDDLE, "copy 1 -1 2 0 1", 4);
        finds(MIDDLE, "copy 2 0 0 0 " + MOST, 4);
        finds(MIDDLE, "copy 0 0 2 0 0", 4);
        finds(MIDDLE, "put 0 0 3 0", 2);
        finds(MIDDLE, "put 0 0 -1 0", 2);
        finds(MIDDLE, "get 1 1 4", 2);
        finds(MIDDLE, "get 1 1 -1", 2);
        finds(MIDDLE, "copy 0 0 0 1 3", 2);
        finds(MIDDLE, "copy 0 -1 0 0 1", 2);
        finds(FULL, "put 2 0 0 0", 2);
        finds(FULL, "get 2 0 0", 2);
        finds(FULL, "copy 0 0 2 0 1", 2);
        for (int s = 0; s < 4; s++) {
            finds(MIDDLE, "sheet " + s + " 0 -1", 5);
            finds(MIDDLE, "sheet " + s + " 2 " + LEAST, 5);
        }
    }

    /** "8 the number of the latest FINDING (0 before any)": no other call changes it. */
    private static void whatIsNotRefusedLeavesTheLatestFinding() {
        Due.is("count 8 ahead of any", new PromisesKept().count(8), 0);
        PromisesKept x = in(MIDDLE);
        String[] calls = {"lose 3", "put 1 1 4 0", "put 1 0 0 0", "copy 2 0 1 0 0", "sheet 1 1 -1"};
        for (int n = 0; n < 5; n++) {
            Calls.answer(x, calls[n]);
            Due.is("count 8 behind " + calls[n], x.count(8), n + 1);
            Calls.all(x, "type 0", "type 256", "wipe", "set 0 0 2", "set 0 0 0", "undo", "forgive 1 1", "held 100", "held 0",
                "put 0 0 0 1", "get 0 0 0", "get 4 0 0", "copy 0 0 0 1 1", "write 5 1", "read 1", "digest", "count 9");
            Due.is("count 8 still, " + calls[n], x.count(8), n + 1);
        }
    }

    /** A call that only tells leaves all as it was, too. */
    private static void answersOnlyChangeNothing() {
        String[] calls = {"fault", "want 0 0", "held 5", "waiting 5", "trust 0 99", "means 0 99", "made 0 1", "without 0 0 1",
            "gain 3", "best", "room 1 1 99 1", "price 5", "hoarder", "rings", "freed 1", "depth 1", "fits 0", "fits 1",
            "unlike 0 1", "owed 0 1 1", "cleared 1", "get 0 0 2", "copy 0 0 0 0 0", "count 2", "digest"};
        for (String call : calls) {
            PromisesKept x = in(MIDDLE);
            Calls.answer(x, call);
            Due.is("count 8 behind " + call, x.count(8), 5);
            Due.is("what is behind " + call, Snapshot.of(x).equals(Snapshot.of(in(MIDDLE))) ? 1 : 0, 1);
        }
    }
}
