/** The bounds that the document tells of what is set and of DAYS (promises 6 to 18): a test for each sentence. */
public final class EdgesOfDaysTest {
    /** Nine of one person's, due on days 1 to 9, and a tenth that is asked when a slot is free. */
    private static final String TEN_OF_ONE =
        "0100019;0100029;0100039;0100049;0100059;0100069;0100079;0100089;0100099;0101109";
    private static final String TEN_AT_ONCE =
        "0100091;0100091;0100091;0100091;0100091;0100091;0100091;0100091;0100091;0100091";

    public static void main(String[] args) {
        slotsFrom1To9();
        lawFrom0To3();
        meansFrom0To9();
        trustFrom0To99();
        afterOfNumbers0To9();
        readAsLongAsEachMayBe();
        readSixAtMost();
        daysFrom0To99();
        dueEndByNumbers();
        keptIfMeansAreLeft();
        allAheadWereKept();
        aheadOfThoseThatThereAre();
        trustPerhapsBelow0();
        forgivenOnlyBetween();
        forgivenFreesTheSameDay();
        lapsedOnTheDayDue();
        waitFromTheDayAsked();
        fewerThanSlots();
        lawsByTheLeastDifference();
        lawsOfLikeOnesTheLeast();
        eightForgivingsAtMost();
        undoTheLast();
        heldAndWaitingAtTheirBounds();
        howItEnded();
        withoutEachForgiving();
        gainOfNoneAndTheGreatest();
        bestOfLikeOnesTheLeast();
        Due.end();
    }

    private static void setIs(PromisesKept x, int what, int k, int v, int was) {
        Due.is("set(" + what + ", " + k + ", " + v + ")", x.set(what, k, v), was);
    }

    /** "SLOTS (1 to 9; 3 at first)", "(what = 0, k = 0)". */
    private static void slotsFrom1To9() {
        PromisesKept x = new PromisesKept();
        setIs(x, 0, 0, 0, Due.BAD);
        setIs(x, 0, 0, 10, Due.BAD);
        setIs(x, 0, 1, 5, Due.BAD);
        setIs(x, 0, -1, 5, Due.BAD);
        setIs(x, 0, 0, 1, 3);
        setIs(x, 0, 0, 9, 1);
        setIs(x, 0, 0, 9, 9);
        setIs(x, -1, 0, 1, Due.BAD);
    }

    /** "LAW (0 to 3; 0 at first)", "(1, k = 0)". */
    private static void lawFrom0To3() {
        PromisesKept x = new PromisesKept();
        setIs(x, 1, 0, -1, Due.BAD);
        setIs(x, 1, 0, 4, Due.BAD);
        setIs(x, 1, 1, 1, Due.BAD);
        setIs(x, 1, -1, 1, Due.BAD);
        setIs(x, 1, 0, 3, 0);
        setIs(x, 1, 0, 0, 3);
    }

    /** "MEANS of a PERSON (0 to 9; 9 at first)": each PERSON's own. */
    private static void meansFrom0To9() {
        PromisesKept x = new PromisesKept();
        for (int person = 0; person < 6; person++) {
            setIs(x, 2, person, -1, Due.BAD);
            setIs(x, 2, person, 10, Due.BAD);
            setIs(x, 2, person, 0, 9);
            setIs(x, 2, person, person, 0);
        }
        for (int person = 0; person < 6; person++) {
            Due.is("means(" + person + ", 0)", x.means(person, 0), person);
            setIs(x, 2, person, 9, person);
            Due.is("means(" + person + ", 99)", x.means(person, 99), 9);
        }
        setIs(x, 2, -1, 5, Due.BAD);
        setIs(x, 2, 6, 5, Due.BAD);
    }

    /** "TRUST in a PERSON (0 to 99; 50 at first)": each PERSON's own. */
    private static void trustFrom0To99() {
        PromisesKept x = new PromisesKept();
        for (int person = 0; person < 6; person++) {
            setIs(x, 3, person, -1, Due.BAD);
            setIs(x, 3, person, 100, Due.BAD);
            setIs(x, 3, person, 0, 50);
            setIs(x, 3, person, 99 - person, 0);
        }
        for (int person = 0; person < 6; person++) {
            Due.is("trust(" + person + ", 0)", x.trust(person, 0), 99 - person);
        }
        setIs(x, 3, -1, 5, Due.BAD);
        setIs(x, 3, 6, 5, Due.BAD);
        setIs(x, 4, 0, 5, Due.BAD);
    }

    /** "AFTER others (of the numbers 0 to 9; none at first)", "(it may be AFTER itself)". */
    private static void afterOfNumbers0To9() {
        PromisesKept x = new PromisesKept();
        int[][] ends = {{0, 0}, {0, 9}, {9, 0}, {9, 9}};
        for (int[] e : ends) {
            String call = "after(" + e[0] + ", " + e[1] + ", ";
            Due.is(call + "1)", x.after(e[0], e[1], 1), 0);
            Due.is(call + "2)", x.after(e[0], e[1], 2), Due.BAD);
            Due.is(call + "-1)", x.after(e[0], e[1], -1), Due.BAD);
            Due.is(call + "1) again", x.after(e[0], e[1], 1), 1);
            Due.is(call + "0)", x.after(e[0], e[1], 0), 1);
            Due.is(call + "0) again", x.after(e[0], e[1], 0), 0);
        }
        Due.is("after(10, 0, 1)", x.after(10, 0, 1), Due.BAD);
        Due.is("after(0, 10, 1)", x.after(0, 10, 1), Due.BAD);
        Due.is("after(-1, 0, 1)", x.after(-1, 0, 1), Due.BAD);
        Due.is("after(0, -1, 1)", x.after(0, -1, 1), Due.BAD);
        for (int pair = 0; pair < 100; pair++) {
            Due.is("after, none", x.after(pair / 10, pair % 10, 0), 0);
        }
    }

    private static PromisesKept withSheet(int form, int... items) {
        PromisesKept x = new PromisesKept();
        x.sheet(2, form, items.length);
        for (int i = 0; i < items.length; i++) {
            x.put(2, form, i, items[i]);
        }
        return x;
    }

    private static void readIs(PromisesKept x, int many, int... means) {
        Due.is("means(0, 0) ahead of read", x.means(0, 0), 9);
        Due.is("read(2)", x.read(2), many);
        for (int person = 0; person < 6; person++) {
            Due.is("means(" + person + ", 0) read", x.means(person, 0), means[person]);
        }
        Due.is("count(8) behind read", x.count(8), 0);
    }

    /** "item by item, as long as each may be": 0 and 9 may be, -1 and 10 may not. */
    private static void readAsLongAsEachMayBe() {
        readIs(withSheet(2, 0, 9, 0, 9, 0, 9), 6, 0, 9, 0, 9, 0, 9);
        readIs(withSheet(2, 10, 1, 1, 1, 1, 1), 0, 9, 9, 9, 9, 9, 9);
        readIs(withSheet(2, -1, 1, 1, 1, 1, 1), 0, 9, 9, 9, 9, 9, 9);
        readIs(withSheet(2, 1, 2, 10, 3, 4, 5), 2, 1, 2, 9, 9, 9, 9);
        readIs(withSheet(1, 1, 2, 3, 4, 5, -1), 5, 1, 2, 3, 4, 5, 9);
        readIs(withSheet(0, 1, 255, 3), 1, 1, 9, 9, 9, 9, 9);
        readIs(withSheet(0, 1, 256, 3), 3, 1, 0, 3, 9, 9, 9);
        readIs(withSheet(1, 65536 + 4, 32768), 1, 4, 9, 9, 9, 9, 9);
        readIs(withSheet(2, 256), 0, 9, 9, 9, 9, 9, 9);
        readIs(withSheet(2, Integer.MIN_VALUE), 0, 9, 9, 9, 9, 9, 9);
        readIs(withSheet(2, Integer.MAX_VALUE), 0, 9, 9, 9, 9, 9, 9);
    }

    /** "six at most": of seven items, of 48; fewer where there are fewer, none of an empty row. */
    private static void readSixAtMost() {
        readIs(withSheet(2), 0, 9, 9, 9, 9, 9, 9);
        readIs(withSheet(2, 5), 1, 5, 9, 9, 9, 9, 9);
        readIs(withSheet(0, 1, 2, 3, 4, 5), 5, 1, 2, 3, 4, 5, 9);
        readIs(withSheet(1, 1, 2, 3, 4, 5, 6), 6, 1, 2, 3, 4, 5, 6);
        readIs(withSheet(2, 1, 2, 3, 4, 5, 6, 7), 6, 1, 2, 3, 4, 5, 6);
        readIs(withSheet(2, new int[48]), 6, 0, 0, 0, 0, 0, 0);
    }

    /** "On each of DAYS 0 to 99": the first and the last are as the others. */
    private static void daysFrom0To99() {
        PromisesKept x = Due.with("0100011;1298992");
        Due.is("held(0)", x.held(0), 1);
        Due.is("held(1)", x.held(1), 0);
        Due.is("held(97)", x.held(97), 0);
        Due.is("held(98)", x.held(98), 2);
        Due.is("held(99)", x.held(99), 0);
        Due.is("trust(1, 98)", x.trust(1, 98), 50);
        Due.is("trust(1, 99)", x.trust(1, 99), 52);
        Due.is("means(1, 98)", x.means(1, 98), 9);
        Due.is("means(1, 99)", x.means(1, 99), 8);
        Due.fate(x, 0, 0, 1, 1);
        Due.fate(x, 1, 98, 99, 1);
    }

    /** "first promises that are DUE end, by numbers". */
    private static void dueEndByNumbers() {
        PromisesKept x = Due.with("0100051;0200052");
        x.set(2, 0, 1);
        Due.fate(x, 0, 0, 5, 1);
        Due.fate(x, 1, 0, 5, 2);
        Due.is("trust(0, 5)", x.trust(0, 5), 49);
        PromisesKept byDay = Due.with("0100061;0200052");
        byDay.set(2, 0, 1);
        Due.fate(byDay, 0, 0, 6, 2);
        Due.fate(byDay, 1, 0, 5, 1);
        PromisesKept up = Due.with("0100051;1200052");
        up.after(1, 0, 1);
        Due.fate(up, 0, 0, 5, 1);
        Due.fate(up, 1, 0, 5, 1);
        PromisesKept down = Due.with("0100051;1200052");
        down.after(0, 1, 1);
        Due.fate(down, 0, 0, 5, 2);
        Due.fate(down, 1, 0, 5, 1);
    }

    /** "KEPT, if WHO has MEANS left (one less then)": nine of nine, the tenth is BROKEN. */
    private static void keptIfMeansAreLeft() {
        PromisesKept x = Due.with(TEN_OF_ONE);
        x.set(0, 0, 9);
        for (int day = 0; day < 10; day++) {
            Due.is("means(0, " + day + ")", x.means(0, day), 9 - day);
        }
        Due.is("means(0, 10)", x.means(0, 10), 0);
        Due.fate(x, 8, 0, 9, 1);
        Due.fate(x, 9, 1, 10, 2);
        Due.is("kept", x.count(3), 9);
        Due.is("broken", x.count(4), 1);
        x.set(2, 0, 0);
        Due.is("kept with no means", x.count(3), 0);
        Due.is("broken with no means", x.count(4), 10);
        Due.is("means(0, 99) stay none", x.means(0, 99), 0);
        Due.is("means(1, 99) stay", x.means(1, 99), 9);
    }

    /** "and all AFTER which it is .. were KEPT, else BROKEN": one of two is not enough; means stay then. */
    private static void allAheadWereKept() {
        PromisesKept x = Due.with("0100051;1200052;2300063");
        x.after(2, 0, 1);
        x.after(2, 1, 1);
        Due.fate(x, 2, 0, 6, 1);
        x.set(2, 1, 0);
        Due.fate(x, 1, 0, 5, 2);
        Due.fate(x, 2, 0, 6, 2);
        Due.is("means(2, 99)", x.means(2, 99), 9);
        x.after(2, 1, 0);
        Due.fate(x, 2, 0, 6, 1);
        x.after(2, 2, 1);
        Due.fate(x, 2, 0, 6, 2);
        PromisesKept first = Due.with("0100051;1200062");
        first.set(2, 0, 0);
        first.after(1, 0, 1);
        Due.fate(first, 0, 0, 5, 2);
        Due.fate(first, 1, 0, 6, 2);
        PromisesKept later = Due.with("0100051;1200062");
        later.after(0, 1, 1);
        Due.fate(later, 0, 0, 5, 2);
        later.forgive(4, 0);
        Due.fate(later, 0, 0, 4, 3);
    }

    /** "(of those that there are)": the numbers beyond count for nothing, until they are typed. */
    private static void aheadOfThoseThatThereAre() {
        PromisesKept x = Due.with("0100061");
        x.after(0, 1, 1);
        x.after(0, 9, 1);
        Due.fate(x, 0, 0, 6, 1);
        Due.type(x, ";1200071");
        Due.fate(x, 0, 0, 6, 2);
        x.after(0, 1, 0);
        Due.fate(x, 0, 0, 6, 1);
    }

    /** "WHO's TRUST becomes WORTH more, or less (perhaps below 0)", as any number. */
    private static void trustPerhapsBelow0() {
        PromisesKept x = Due.with(TEN_OF_ONE);
        x.set(0, 0, 9);
        x.set(3, 0, 99);
        Due.is("trust(0, 9)", x.trust(0, 9), 99 + 81);
        Due.is("trust(0, 10)", x.trust(0, 10), 99 + 81 - 9);
        x.set(2, 0, 0);
        x.set(3, 0, 0);
        Due.is("trust(0, 1)", x.trust(0, 1), -9);
        Due.is("trust(0, 10)", x.trust(0, 10), -90);
        Due.is("trust(0, 99)", x.trust(0, 99), -90);
        Due.is("trust(1, 99)", x.trust(1, 99), 50);
        PromisesKept below = Due.with("0100019;1001021;0202203;1202203");
        Calls.all(below, "set 0 0 1", "set 1 0 3", "set 2 0 0", "set 2 1 0", "set 3 0 0", "set 3 1 0");
        Due.is("held(2): -1 is trusted more than -9", below.held(2), 8);
    }

    /** "of a promise (0 to 9), if it is made then and did not end (else nothing comes of it)". */
    private static void forgivenOnlyBetween() {
        for (int day = 0; day < 100; day++) {
            PromisesKept x = Due.with("0103085");
            Due.is("forgive(" + day + ", 0)", x.forgive(day, 0), 1);
            boolean between = day >= 4 && day <= 7;
            Due.fate(x, 0, 3, between ? day : 8, between ? 3 : 1);
            Due.is("trust, forgiven on " + day, x.trust(0, 99), between ? 50 : 55);
            Due.is("means, forgiven on " + day, x.means(0, 99), between ? 9 : 8);
        }
        PromisesKept waits = Due.with("0100091;1201052");
        waits.set(0, 0, 1);
        waits.forgive(3, 1);
        waits.forgive(3, 9);
        Due.is("waiting(3): it waits still", waits.waiting(3), 2);
        Due.fate(waits, 1, -1, 5, 4);
        waits.forgive(7, 1);
        Due.fate(waits, 1, -1, 5, 4);
    }

    /** "Then those are FORGIVEN that are told for that day (they end)": ahead of what is made that day. */
    private static void forgivenFreesTheSameDay() {
        PromisesKept x = Due.with("0100091;1201092");
        x.set(0, 0, 1);
        x.forgive(4, 0);
        Due.is("held(3)", x.held(3), 1);
        Due.is("held(4)", x.held(4), 2);
        Due.fate(x, 0, 0, 4, 3);
        Due.fate(x, 1, 4, 9, 1);
        x.forgive(4, 1);
        Due.fate(x, 1, 4, 9, 1);
        x.forgive(5, 1);
        Due.fate(x, 1, 4, 5, 3);
        x.forgive(5, 1);
        Due.fate(x, 1, 4, 5, 3);
    }

    /** "Then wants that are DUE and were not made LAPSE", though a slot is free from that day on. */
    private static void lapsedOnTheDayDue() {
        PromisesKept x = Due.with("0100051;1201052");
        x.set(0, 0, 1);
        Due.fate(x, 1, -1, 5, 4);
        Due.is("waiting(4)", x.waiting(4), 2);
        Due.is("waiting(5)", x.waiting(5), 0);
        Due.is("held(5)", x.held(5), 0);
        PromisesKept forgiven = Due.with("0100091;1201052");
        forgiven.set(0, 0, 1);
        forgiven.forgive(5, 0);
        Due.fate(forgiven, 1, -1, 5, 4);
        forgiven.undo();
        forgiven.forgive(4, 0);
        Due.fate(forgiven, 1, 4, 5, 1);
        PromisesKept last = Due.with("0100991;1298992");
        last.set(0, 0, 1);
        Due.fate(last, 1, -1, 99, 4);
        Due.is("lapsed on the last day", last.count(5), 1);
    }

    /** "wants that WAIT (ASKED that day or ahead, not made, not LAPSED)". */
    private static void waitFromTheDayAsked() {
        PromisesKept x = Due.with("0100201;1205152");
        x.set(0, 0, 1);
        Due.is("waiting(4)", x.waiting(4), 0);
        Due.is("waiting(5)", x.waiting(5), 2);
        Due.is("waiting(14)", x.waiting(14), 2);
        Due.is("waiting(15)", x.waiting(15), 0);
        x.set(0, 0, 2);
        Due.is("held(4)", x.held(4), 1);
        Due.is("held(5)", x.held(5), 3);
        Due.is("waiting(5) with two slots", x.waiting(5), 0);
    }

    /** "as long as there are fewer than SLOTS": one to nine of ten, never more. */
    private static void fewerThanSlots() {
        for (int slots = 1; slots <= 9; slots++) {
            PromisesKept x = Due.with(TEN_AT_ONCE);
            x.set(0, 0, slots);
            int held = (1 << slots) - 1;
            Due.is("held(0) of " + slots, x.held(0), held);
            Due.is("waiting(0) of " + slots, x.waiting(0), 1023 - held);
            Due.is("held(8) of " + slots, x.held(8), held);
            Due.is("made of " + slots, x.count(2), slots);
            Due.is("lapsed of " + slots, x.count(5), 10 - slots);
        }
        PromisesKept three = Due.with(TEN_AT_ONCE);
        Due.is("three at first", three.held(0), 7);
    }

    private static int nextByLaw(int law, String two) {
        PromisesKept x = Due.with("5400051;" + two);
        Calls.all(x, "set 0 0 1", "set 1 0 " + law, "set 3 1 50", "set 3 2 51");
        return x.held(5);
    }

    /** "by LAW 0 the one ASKED first, 1 that of the greatest WORTH, 2 .. DUE first, 3 .. TRUSTED most": by one. */
    private static void lawsByTheLeastDifference() {
        Due.is("law 0", nextByLaw(0, "1303205;1302205"), 4);
        Due.is("law 0, the other way about", nextByLaw(0, "1302205;1303205"), 2);
        Due.is("law 1", nextByLaw(1, "1302208;1303209"), 4);
        Due.is("law 1, the other way about", nextByLaw(1, "1303209;1302208"), 2);
        Due.is("law 2", nextByLaw(2, "1302205;1303195"), 4);
        Due.is("law 2, the other way about", nextByLaw(2, "1303195;1302205"), 2);
        Due.is("law 3", nextByLaw(3, "1302205;2303205"), 4);
        Due.is("law 3, the other way about", nextByLaw(3, "2303205;1302205"), 2);
    }

    /** "of like ones the least": whatever the other laws would say. */
    private static void lawsOfLikeOnesTheLeast() {
        Due.is("law 0, like ones", nextByLaw(0, "1302305;2302209"), 2);
        Due.is("law 1, like ones", nextByLaw(1, "1303305;2302205"), 2);
        Due.is("law 2, like ones", nextByLaw(2, "1303205;2302209"), 2);
        Due.is("law 3, like ones", nextByLaw(3, "1303305;1302209"), 2);
        for (int law = 0; law < 4; law++) {
            PromisesKept x = Due.with(TEN_AT_ONCE);
            Calls.all(x, "set 0 0 4", "set 1 0 " + law);
            Due.is("held(0), all alike, law " + law, x.held(0), 15);
        }
    }

    /** "FORGIVINGS, 8 at most": the eighth works, the ninth does nothing. */
    private static void eightForgivingsAtMost() {
        PromisesKept x = Due.with(TEN_AT_ONCE);
        x.set(0, 0, 9);
        for (int n = 0; n < 8; n++) {
            Due.is("forgive " + n, x.forgive(3, n), n + 1);
        }
        Due.is("forgive the ninth", x.forgive(3, 8), Due.FULL);
        Due.is("count(6)", x.count(6), 8);
        Due.fate(x, 7, 0, 3, 3);
        Due.fate(x, 8, 0, 9, 1);
        Due.fate(x, 9, 3, 9, 1);
        Due.is("undo()", x.undo(), 7);
        Due.fate(x, 7, 0, 9, 1);
        Due.is("forgive once more", x.forgive(3, 8), 8);
        Due.fate(x, 8, 0, 3, 3);
    }

    /** "The last FORGIVING is undone: how many are left. NOT: there is none." */
    private static void undoTheLast() {
        PromisesKept x = Due.with("0100091;1200091");
        Due.is("undo() of none", x.undo(), Due.NOT);
        x.forgive(5, 1);
        x.forgive(2, 0);
        Due.is("undo()", x.undo(), 1);
        Due.fate(x, 0, 0, 9, 1);
        Due.fate(x, 1, 0, 5, 3);
        Due.is("undo() the first", x.undo(), 0);
        Due.fate(x, 1, 0, 9, 1);
        Due.is("undo() of none again", x.undo(), Due.NOT);
        Due.is("count(6)", x.count(6), 0);
    }

    /** "which promises are HELD (made, not ended), which wants WAIT, as bits": bit 0 to bit 9. */
    private static void heldAndWaitingAtTheirBounds() {
        PromisesKept x = Due.with(TEN_OF_ONE);
        x.set(0, 0, 9);
        Due.is("held(0)", x.held(0), 511);
        Due.is("held(1): 0 ended, 9 was made", x.held(1), 1022);
        Due.is("held(9)", x.held(9), 512);
        Due.is("held(10)", x.held(10), 0);
        x.set(0, 0, 1);
        x.set(1, 0, 2);
        Due.is("waiting(0)", x.waiting(0), 510);
        Due.is("waiting(1)", x.waiting(1), 508 + 512);
        int[] not = {-1, 100};
        for (int day : not) {
            Due.is("held(" + day + ")", x.held(day), Due.BAD);
            Due.is("waiting(" + day + ")", x.waiting(day), Due.BAD);
            Due.is("trust(0, " + day + ")", x.trust(0, day), Due.BAD_NUMBER);
            Due.is("means(0, " + day + ")", x.means(0, day), Due.BAD);
        }
    }

    /** "how: .. 1 KEPT, 2 BROKEN, 3 FORGIVEN, 4 LAPSED"; a DAY on which it was not made is NONE. */
    private static void howItEnded() {
        PromisesKept x = Due.with("0100051;1200052;2300053;3400054");
        x.set(2, 1, 0);
        x.forgive(4, 2);
        Due.fate(x, 0, 0, 5, 1);
        Due.fate(x, 1, 0, 5, 2);
        Due.fate(x, 2, 0, 4, 3);
        Due.fate(x, 3, 4, 5, 1);
        x.undo();
        Due.fate(x, 2, 0, 5, 1);
        Due.fate(x, 3, -1, 5, 4);
        int[] counts = {4, 31, 3, 2, 1, 1};
        for (int what = 0; what < 6; what++) {
            Due.is("count(" + what + ")", x.count(what), counts[what]);
        }
        Due.is("made(3, 3)", x.made(3, 3), Due.BAD);
        Due.is("made(3, -1)", x.made(3, -1), Due.BAD);
        Due.is("made(4, 0)", x.made(4, 0), Due.BAD);
    }

    /** "WITHOUT a FORGIVING: what it would be, were it not told": of eight, each by itself; a ninth is BAD. */
    private static void withoutEachForgiving() {
        PromisesKept x = Due.with(TEN_AT_ONCE);
        x.set(0, 0, 9);
        Due.is("without of none", x.without(0, 0, 0), Due.BAD);
        for (int n = 0; n < 8; n++) {
            x.forgive(n + 1, n);
        }
        for (int n = 0; n < 8; n++) {
            for (int want = 0; want < 8; want++) {
                Due.is("without(" + n + ", " + want + ", 1)", x.without(n, want, 1), want == n ? 9 : want + 1);
                Due.is("without(" + n + ", " + want + ", 2)", x.without(n, want, 2), want == n ? 1 : 3);
            }
            Due.is("without(" + n + ", 9, 0)", x.without(n, 9, 0), n == 0 ? 2 : 1);
        }
        Due.is("without(8, 0, 0)", x.without(8, 0, 0), Due.BAD);
        Due.is("without(-1, 0, 0)", x.without(-1, 0, 0), Due.BAD);
        Due.fate(x, 7, 0, 8, 3);
        Due.is("all are told still", x.count(6), 8);
    }

    /** "WORTH of all that is KEPT by the end less that of what is BROKEN", as any number. */
    private static void gainOfNoneAndTheGreatest() {
        PromisesKept x = new PromisesKept();
        for (int law = 0; law < 4; law++) {
            Due.is("gain(" + law + ") of none", x.gain(law), 0);
        }
        Due.is("gain(-1)", x.gain(-1), Due.BAD_NUMBER);
        Due.is("gain(4)", x.gain(4), Due.BAD_NUMBER);
        Due.type(x, TEN_OF_ONE);
        x.set(0, 0, 9);
        Due.is("gain(0)", x.gain(0), 81 - 9);
        x.set(2, 0, 0);
        Due.is("gain(3), all broken", x.gain(3), -90);
        PromisesKept none = Due.with("0100059;1201052");
        none.set(0, 0, 1);
        none.forgive(4, 0);
        none.forgive(4, 1);
        Due.is("gain(0), one forgiven, one kept", none.gain(0), 2);
        none.set(2, 1, 0);
        Due.is("gain(0), one forgiven, one broken", none.gain(0), -2);
        none.undo();
        none.undo();
        Due.is("gain(0), one kept, one lapsed", none.gain(0), 9);
    }

    /** "the LAW with the greatest GAIN, of like ones the least". */
    private static void bestOfLikeOnesTheLeast() {
        Due.is("best() of none", new PromisesKept().best(), 0);
        PromisesKept second = Due.with("0100055;1201202;2302109");
        Calls.all(second, "set 0 0 1", "set 2 1 0");
        int[] gains = {3, 12, 12, 3};
        for (int law = 0; law < 4; law++) {
            Due.is("gain(" + law + ")", second.gain(law), gains[law]);
        }
        Due.is("best() of two", second.best(), 1);
        PromisesKept last = Due.with("0100055;1201109;2302202");
        Calls.all(last, "set 0 0 1", "set 2 1 0", "set 3 2 51");
        int[] below = {-2, -2, -2, 7};
        for (int law = 0; law < 4; law++) {
            Due.is("gain(" + law + ")", last.gain(law), below[law]);
        }
        Due.is("best() is the last", last.best(), 3);
        PromisesKept all = Due.with("0100059");
        all.set(2, 0, 0);
        all.set(1, 0, 3);
        Due.is("best() of like ones below 0", all.best(), 0);
    }
}
