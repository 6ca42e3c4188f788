/** The bounds that the document tells of ROOM, PRICE, HOARDER, RINGS, FREED, DEPTH: a test for each sentence. */
public final class EdgesOfSlotsTest {
    /** Ten at once, each of worth 9 and to person 1. */
    private static final String TEN =
        "0100099;0100099;0100099;0100099;0100099;0100099;0100099;0100099;0100099;0100099";

    public static void main(String[] args) {
        roomFor1To9();
        roomAtLeastK();
        roomWhereMoreThanSlotsAreTold();
        nobodyLosesMoreThanTold();
        roomOfLikeOnesTheLeastBits();
        roomOfThoseHeldThen();
        priceOfNoneAndTheGreatest();
        hoarderOfNone();
        hoarderOfLikeOnes();
        hoarderFromMadeToEnded();
        ringsOfOneAndOfTen();
        ringsOfThoseThatThereAre();
        thoseThatOnlyComeToARingAreNotOnIt();
        freedOfNoneAndOfAll();
        freedOfLikeOnesTheLeastBits();
        freedTheFewest();
        depthFrom1To10();
        depthNone();
        depthOfThoseThatThereAre();
        Due.end();
    }

    private static PromisesKept tenAtOnce(int slots) {
        PromisesKept x = Due.with(TEN);
        x.set(0, 0, slots);
        return x;
    }

    private static void roomIs(PromisesKept x, int day, int k, int most, int worth, int bits) {
        String call = "room(" + day + ", " + k + ", " + most + ", ";
        Due.is(call + "0)", x.room(day, k, most, 0), worth);
        Due.is(call + "1)", x.room(day, k, most, 1), bits);
    }

    /** "ROOM for k (1 to 9) more behind a DAY", how much (what = 0), as bits (1). */
    private static void roomFor1To9() {
        PromisesKept x = tenAtOnce(9);
        for (int k = 1; k <= 9; k++) {
            roomIs(x, 0, k, 99, 9 * k, (1 << k) - 1);
        }
        roomIs(x, 0, 0, 99, Due.BAD, Due.BAD);
        roomIs(x, 0, 10, 99, Due.BAD, Due.BAD);
        roomIs(x, -1, 1, 99, Due.BAD, Due.BAD);
        roomIs(x, 100, 1, 99, Due.BAD, Due.BAD);
        roomIs(x, 99, 1, 99, 0, 0);
        Due.is("room, what 2", x.room(0, 1, 99, 2), Due.BAD);
        Due.is("room, what -1", x.room(0, 1, 99, -1), Due.BAD);
        roomIs(x, 0, 1, -1, Due.BAD, Due.BAD);
        roomIs(x, 0, 1, 100, Due.BAD, Due.BAD);
    }

    /** "so that there are at least k SLOTS that are free": those that are free already count. */
    private static void roomAtLeastK() {
        PromisesKept x = Due.with("0100091;1200092;2300093");
        x.set(0, 0, 5);
        roomIs(x, 0, 1, 0, 0, 0);
        roomIs(x, 0, 2, 0, 0, 0);
        roomIs(x, 0, 3, 99, 1, 1);
        roomIs(x, 0, 4, 99, 3, 3);
        roomIs(x, 0, 5, 99, 6, 7);
        roomIs(x, 9, 5, 0, 0, 0);
    }

    /** "NONE": there are never more free than there are SLOTS. */
    private static void roomWhereMoreThanSlotsAreTold() {
        for (int slots = 1; slots < 9; slots++) {
            PromisesKept x = tenAtOnce(slots);
            roomIs(x, 0, slots, 99, 9 * slots, (1 << slots) - 1);
            roomIs(x, 0, slots + 1, 99, -1, -1);
            roomIs(x, 0, 9, 99, -1, -1);
        }
        PromisesKept none = new PromisesKept();
        roomIs(none, 0, 3, 0, 0, 0);
        roomIs(none, 0, 4, 99, -1, -1);
    }

    /** "by which nobody TO whom they were made loses WORTH of more than told (0 to 99)". */
    private static void nobodyLosesMoreThanTold() {
        PromisesKept x = tenAtOnce(9);
        roomIs(x, 0, 9, 81, 81, 511);
        roomIs(x, 0, 9, 80, -1, -1);
        roomIs(x, 0, 1, 9, 9, 1);
        roomIs(x, 0, 1, 8, -1, -1);
        roomIs(x, 0, 1, 0, -1, -1);
        PromisesKept two = Due.with("0100093;2100094;0300099");
        roomIs(two, 0, 2, 7, 7, 3);
        roomIs(two, 0, 2, 6, -1, -1);
        PromisesKept other = Due.with("0100093;2100094;0300095");
        roomIs(other, 0, 2, 7, 7, 3);
        roomIs(other, 0, 2, 6, 8, 5);
        roomIs(other, 0, 2, 5, 8, 5);
        roomIs(other, 0, 2, 4, -1, -1);
        roomIs(other, 0, 3, 7, 12, 7);
        for (int to = 0; to < 6; to++) {
            PromisesKept one = Due.with("" + (to + 1) % 6 + to + "00094;" + (to + 2) % 6 + to + "00095");
            one.set(0, 0, 2);
            roomIs(one, 0, 2, 9, 9, 3);
            roomIs(one, 0, 2, 8, -1, -1);
            roomIs(one, 0, 1, 4, 4, 1);
            roomIs(one, 0, 1, 3, -1, -1);
        }
    }

    /** "the least WORTH together, of like ones the least bits". */
    private static void roomOfLikeOnesTheLeastBits() {
        PromisesKept x = Due.with("0100095;1200093;2300093");
        roomIs(x, 0, 1, 99, 3, 2);
        roomIs(x, 0, 2, 99, 6, 6);
        PromisesKept like = Due.with("0100093;1200095;2300093");
        roomIs(like, 0, 1, 99, 3, 1);
        roomIs(like, 0, 2, 99, 6, 5);
        PromisesKept pairs = Due.with("0100091;1200094;2300092;3400093");
        pairs.set(0, 0, 4);
        roomIs(pairs, 0, 2, 99, 3, 5);
        roomIs(pairs, 0, 3, 99, 6, 13);
        PromisesKept sums = Due.with("0100094;2100092;3200093;4300093");
        sums.set(0, 0, 4);
        roomIs(sums, 0, 2, 5, 5, 6);
    }

    /** "sets of promises that are HELD then": what waits or has ended is not among them. */
    private static void roomOfThoseHeldThen() {
        PromisesKept x = Due.with("0100051;1200093;2301092;3401094");
        x.set(0, 0, 2);
        roomIs(x, 1, 1, 99, 1, 1);
        roomIs(x, 4, 1, 99, 1, 1);
        roomIs(x, 5, 1, 99, 2, 4);
        roomIs(x, 5, 2, 99, 5, 6);
        Due.is("held(5): nothing was forgiven", x.held(5), 6);
    }

    /** "the greatest WORTH of wants that WAIT (0: none does)". */
    private static void priceOfNoneAndTheGreatest() {
        PromisesKept x = Due.with("0100509;1205211;2306209;3407204");
        x.set(0, 0, 1);
        Due.is("price(0)", x.price(0), 0);
        Due.is("price(4)", x.price(4), 0);
        Due.is("price(5)", x.price(5), 1);
        Due.is("price(6)", x.price(6), 9);
        Due.is("price(19)", x.price(19), 9);
        Due.is("price(20)", x.price(20), 1);
        Due.is("price(21)", x.price(21), 0);
        Due.is("price(99)", x.price(99), 0);
        Due.is("price(-1)", x.price(-1), Due.BAD);
        Due.is("price(100)", x.price(100), Due.BAD);
        Due.is("price(0) of no wants", new PromisesKept().price(0), 0);
        PromisesKept first = Due.with("0100501;1200502");
        first.set(0, 0, 1);
        first.set(1, 0, 1);
        Due.is("price(0): want 0 waits", first.price(0), 1);
        PromisesKept tenth = Due.with(TEN);
        tenth.set(0, 0, 9);
        Due.is("price(0): want 9 waits", tenth.price(0), 9);
    }

    /** "NONE: nothing was made." */
    private static void hoarderOfNone() {
        PromisesKept x = new PromisesKept();
        Due.is("hoarder() of no wants", x.hoarder(), -1);
        Due.type(x, "0198991");
        Due.is("hoarder() of one day", x.hoarder(), 0);
        x.type('1');
        Due.is("hoarder() with a fault", x.hoarder(), -1);
        Due.is("hoarder() is the last person", Due.with("5000011").hoarder(), 5);
    }

    /** "together, of like ones the least". */
    private static void hoarderOfLikeOnes() {
        PromisesKept x = Due.with("5000101;4000041;4000061");
        Due.is("hoarder(), 4 + 6 and 10", x.hoarder(), 4);
        PromisesKept more = Due.with("5000111;4000041;4000061");
        Due.is("hoarder(), 4 + 6 and 11", more.hoarder(), 5);
        PromisesKept like = Due.with("3000051;2000051;1000051");
        Due.is("hoarder() of three like ones", like.hoarder(), 1);
    }

    /** "(from the one on which each was made to that on which it ended)": not from ASKED, not to DUE. */
    private static void hoarderFromMadeToEnded() {
        PromisesKept x = Due.with("1000301;0201601");
        x.set(0, 0, 1);
        Due.is("hoarder(), made late: 30 and 30", x.hoarder(), 0);
        PromisesKept fewer = Due.with("1000311;0201601");
        fewer.set(0, 0, 1);
        Due.is("hoarder(), made late: 31 and 29", fewer.hoarder(), 1);
        PromisesKept forgiven = Due.with("1000301;0200601");
        forgiven.forgive(29, 1);
        Due.is("hoarder(), ended early: 30 and 29", forgiven.hoarder(), 1);
        forgiven.undo();
        forgiven.forgive(30, 1);
        Due.is("hoarder(), ended early: 30 and 30", forgiven.hoarder(), 0);
        PromisesKept lapsed = Due.with("1000601;0200591");
        lapsed.set(0, 0, 1);
        Due.is("hoarder(), what lapsed was not held", lapsed.hoarder(), 1);
    }

    /** "wants that are AFTER themselves, going on from each to those AFTER which it is". */
    private static void ringsOfOneAndOfTen() {
        PromisesKept x = Due.with(TEN);
        Due.is("rings() of none", x.rings(), 0);
        x.after(9, 9, 1);
        Due.is("rings() of one", x.rings(), 512);
        x.after(0, 8, 1);
        x.after(8, 0, 1);
        Due.is("rings() of one and two", x.rings(), 512 + 256 + 1);
        x.after(9, 9, 0);
        x.after(8, 0, 0);
        Due.is("rings() undone", x.rings(), 0);
        x.after(0, 8, 0);
        for (int w = 0; w < 10; w++) {
            Due.is("rings() of a row", x.rings(), 0);
            x.after(w, (w + 1) % 10, 1);
        }
        Due.is("rings() of ten", x.rings(), 1023);
        PromisesKept down = Due.with(TEN);
        for (int w = 0; w < 10; w++) {
            down.after((w + 1) % 10, w, 1);
        }
        Due.is("rings() of ten, the other way about", down.rings(), 1023);
    }

    /** "as bits (of wants that there are)". */
    private static void ringsOfThoseThatThereAre() {
        PromisesKept x = Due.with("0100051;1200051");
        x.after(2, 2, 1);
        x.after(1, 2, 1);
        x.after(2, 1, 1);
        Due.is("rings() through one that there is not", x.rings(), 0);
        Due.is("freed(0) of it", x.freed(0), 0);
        Due.is("depth(1) of it", x.depth(1), 1);
        Due.type(x, ";2300051");
        Due.is("rings() with it", x.rings(), 6);
        Due.is("freed(1) with it", x.freed(1), 4);
        Due.is("depth(1) with it", x.depth(1), -1);
        x.wipe();
        Due.is("rings() of no wants", x.rings(), 0);
    }

    /** A RING's wants are AFTER themselves: one that leads to it, or to which it leads, is not. */
    private static void thoseThatOnlyComeToARingAreNotOnIt() {
        PromisesKept x = Due.with(TEN);
        x.after(0, 1, 1);
        x.after(1, 2, 1);
        x.after(2, 1, 1);
        x.after(2, 3, 1);
        Due.is("rings()", x.rings(), 6);
    }

    private static void freedIs(PromisesKept x, int many, int bits) {
        Due.is("freed(0)", x.freed(0), many);
        Due.is("freed(1)", x.freed(1), bits);
    }

    /** "the fewest wants without which .. there are no RINGS": none where there are none, all ten where each has one. */
    private static void freedOfNoneAndOfAll() {
        freedIs(new PromisesKept(), 0, 0);
        PromisesKept x = Due.with(TEN);
        freedIs(x, 0, 0);
        for (int w = 0; w < 10; w++) {
            x.after(w, w, 1);
            freedIs(x, w + 1, (2 << w) - 1);
        }
        Due.is("freed(-1)", x.freed(-1), Due.BAD);
        Due.is("freed(2)", x.freed(2), Due.BAD);
    }

    /** "of like ones the least bits". */
    private static void freedOfLikeOnesTheLeastBits() {
        PromisesKept x = Due.with(TEN);
        for (int w = 0; w < 100; w++) {
            x.after(w / 10, w % 10, w / 10 == w % 10 ? 0 : 1);
        }
        freedIs(x, 9, 511);
        PromisesKept two = Due.with(TEN);
        two.after(8, 9, 1);
        two.after(9, 8, 1);
        freedIs(two, 1, 256);
        two.after(3, 7, 1);
        two.after(7, 3, 1);
        freedIs(two, 2, 256 + 8);
    }

    /** One that stands on two RINGS is fewer than one of each, though its bit is greater. */
    private static void freedTheFewest() {
        PromisesKept x = Due.with(TEN);
        x.after(0, 9, 1);
        x.after(9, 0, 1);
        x.after(1, 9, 1);
        x.after(9, 1, 1);
        freedIs(x, 1, 512);
        x.after(0, 0, 1);
        freedIs(x, 2, 3);
        x.after(2, 9, 1);
        x.after(9, 2, 1);
        freedIs(x, 2, 513);
    }

    /** "how many wants are in the longest row of AFTER that begins with it (it, too)". */
    private static void depthFrom1To10() {
        PromisesKept x = Due.with(TEN);
        for (int w = 0; w < 10; w++) {
            Due.is("depth(" + w + ") alone", x.depth(w), 1);
        }
        for (int w = 0; w < 9; w++) {
            x.after(w + 1, w, 1);
            Due.is("depth(" + (w + 1) + ")", x.depth(w + 1), w + 2);
        }
        x.after(9, 0, 1);
        Due.is("depth(9): the longest, not the shortest", x.depth(9), 10);
        Due.is("depth(10)", x.depth(10), Due.BAD);
        Due.is("depth(-1)", x.depth(-1), Due.BAD);
    }

    /** "NONE: it comes to a RING", by any of its rows. */
    private static void depthNone() {
        PromisesKept x = Due.with(TEN);
        x.after(0, 1, 1);
        x.after(0, 2, 1);
        x.after(2, 3, 1);
        x.after(3, 3, 1);
        Due.is("depth(0)", x.depth(0), -1);
        Due.is("depth(1)", x.depth(1), 1);
        Due.is("depth(2)", x.depth(2), -1);
        Due.is("depth(3)", x.depth(3), -1);
        x.after(3, 4, 1);
        Due.is("depth(4): the ring comes to it", x.depth(4), 1);
        x.after(3, 3, 0);
        Due.is("depth(0) without the ring", x.depth(0), 4);
        for (int w = 0; w < 10; w++) {
            x.after(w, (w + 1) % 10, 1);
        }
        for (int w = 0; w < 10; w++) {
            Due.is("depth(" + w + ") in a ring of ten", x.depth(w), -1);
        }
    }

    /** A row goes through wants that there are. */
    private static void depthOfThoseThatThereAre() {
        PromisesKept x = Due.with("0100051;1200051");
        x.after(0, 9, 1);
        x.after(9, 1, 1);
        Due.is("depth(0), its next is not there", x.depth(0), 1);
        Due.is("depth(2)", x.depth(2), Due.BAD);
        x.after(0, 1, 1);
        Due.is("depth(0)", x.depth(0), 2);
        Due.is("depth(0) of none", new PromisesKept().depth(0), Due.BAD);
    }
}
