/** The bounds that the document tells of SEEN, FITS, UNLIKE, OWED, CLEARED: a test for each sentence. */
public final class EdgesOfSeenTest {
    /** Ten at once, each of worth 9, from person 0 to person 1. */
    private static final String TEN =
        "0100099;0100099;0100099;0100099;0100099;0100099;0100099;0100099;0100099;0100099";

    public static void main(String[] args) {
        eightSeenAtMost();
        theNinthIsNotSeen();
        forgetAll();
        heldOrNot();
        fitsByNothing();
        fitsBothWays();
        slotsFrom1To9AsBits();
        lawsFrom0To3AsBits();
        fitsOnTheFirstAndTheLastDay();
        unlikeOnTheFirstAndTheLastDay();
        unlikeNone();
        owedAsAnyNumber();
        owedToOneself();
        clearedOfNoneAndTheGreatest();
        eachPairSetOff();
        Due.end();
    }

    /** "SEEN, 8 at most": how many. */
    private static void eightSeenAtMost() {
        PromisesKept x = new PromisesKept();
        for (int n = 1; n <= 8; n++) {
            Due.is("seen the " + n, x.seen(n == 1 ? 0 : 99, n == 1 ? 0 : 9, n & 1), n);
            Due.is("count(7)", x.count(7), n);
        }
        Due.is("seen the ninth", x.seen(0, 0, 0), Due.FULL);
        Due.is("count(7) of eight", x.count(7), 8);
    }

    /** A refused one says nothing about laws. */
    private static void theNinthIsNotSeen() {
        PromisesKept x = Due.with(TEN);
        for (int n = 0; n < 8; n++) {
            x.seen(0, 0, 1);
        }
        Due.is("fits(0) by eight", x.fits(0), 15);
        Due.is("the ninth, against them", x.seen(0, 0, 0), Due.FULL);
        Due.is("fits(0) still", x.fits(0), 15);
        x.forget();
        x.seen(0, 0, 0);
        Due.is("fits(0) once it counts", x.fits(0), 0);
    }

    /** "All SEEN are forgotten: how many": 0 of none, 8 of all; then there is room for 8. */
    private static void forgetAll() {
        PromisesKept x = new PromisesKept();
        Due.is("forget() of none", x.forget(), 0);
        for (int many = 1; many <= 8; many++) {
            for (int n = 1; n <= many; n++) {
                Due.is("seen", x.seen(5, 5, 1), n);
            }
            Due.is("forget() of " + many, x.forget(), many);
            Due.is("count(7)", x.count(7), 0);
        }
        Due.is("fits(0), all forgotten", x.fits(0), 15);
    }

    /** "behind a DAY a promise was HELD (1), or it was not (0)"; of the numbers 0 to 9. */
    private static void heldOrNot() {
        for (int day = 0; day < 12; day++) {
            PromisesKept x = Due.with("0103085");
            boolean held = day >= 3 && day <= 7;
            x.seen(day, 0, 1);
            Due.is("fits(0), held behind " + day, x.fits(0), held ? 15 : 0);
            x.forget();
            x.seen(day, 0, 0);
            Due.is("fits(0), not held behind " + day, x.fits(0), held ? 0 : 15);
        }
        PromisesKept none = Due.with("0100095");
        none.seen(5, 9, 0);
        Due.is("fits(1), one that there is not: not held", none.fits(1), 511);
        none.seen(5, 9, 1);
        Due.is("fits(1), one that there is not: held", none.fits(1), 0);
        int[][] bad = {{-1, 0, 1}, {100, 0, 1}, {0, -1, 1}, {0, 10, 1}, {0, 0, -1}, {0, 0, 2}};
        for (int[] b : bad) {
            Due.is("seen(" + b[0] + ", " + b[1] + ", " + b[2] + ")", none.seen(b[0], b[1], b[2]), Due.BAD);
        }
        Due.is("count(7)", none.count(7), 2);
    }

    /** Where nothing was SEEN, all come out so. */
    private static void fitsByNothing() {
        PromisesKept x = new PromisesKept();
        Due.is("fits(0) of a new one", x.fits(0), 15);
        Due.is("fits(1) of a new one", x.fits(1), 511);
        Due.is("fits(-1)", x.fits(-1), Due.BAD);
        Due.is("fits(2)", x.fits(2), Due.BAD);
        Due.type(x, TEN);
        Due.is("fits(0) of ten", x.fits(0), 15);
        Due.is("fits(1) of ten", x.fits(1), 511);
    }

    /** "LAWS by which all that was SEEN comes out so": one that does not is enough. */
    private static void fitsBothWays() {
        PromisesKept x = Due.with(TEN);
        x.seen(0, 0, 1);
        x.seen(0, 0, 1);
        Due.is("fits(0), seen twice", x.fits(0), 15);
        x.seen(0, 0, 0);
        Due.is("fits(0), seen and not seen", x.fits(0), 0);
        Due.is("fits(1), seen and not seen", x.fits(1), 0);
    }

    /** "SLOTS that FIT (LAW as it is): numbers 1 to 9, as bits (bit 0 for 1)". */
    private static void slotsFrom1To9AsBits() {
        for (int slots = 1; slots <= 9; slots++) {
            PromisesKept x = Due.with(TEN);
            x.seen(0, slots - 1, 1);
            x.seen(0, slots, 0);
            Due.is("fits(1), " + slots + " seen", x.fits(1), 1 << slots - 1);
            Due.is("fits(0) with three slots", x.fits(0), slots == 3 ? 15 : 0);
        }
        PromisesKept x = Due.with(TEN);
        x.seen(0, 9, 1);
        Due.is("fits(1), ten would be needed", x.fits(1), 0);
        PromisesKept byLaw = Due.with("0100091;1200092");
        byLaw.seen(0, 0, 0);
        Due.is("fits(1), law 0", byLaw.fits(1), 0);
        byLaw.set(1, 0, 1);
        Due.is("fits(1), law 1", byLaw.fits(1), 1);
    }

    /** Of five wants each law takes another one: its bit alone, bit 0 to bit 3. */
    private static void lawsFrom0To3AsBits() {
        for (int law = 0; law < 4; law++) {
            PromisesKept x = Due.with("5400055;0101505;0202509;0302405;1202505");
            x.set(0, 0, 1);
            x.set(3, 1, 51);
            x.seen(5, law + 1, 1);
            Due.is("fits(0), want " + (law + 1) + " held", x.fits(0), 1 << law);
            x.forget();
            x.seen(5, law + 1, 0);
            Due.is("fits(0), want " + (law + 1) + " not held", x.fits(0), 15 - (1 << law));
        }
    }

    /** A DAY from 0 to 99: behind the last nothing is HELD. */
    private static void fitsOnTheFirstAndTheLastDay() {
        PromisesKept x = Due.with("0100995");
        x.seen(0, 0, 1);
        x.seen(98, 0, 1);
        x.seen(99, 0, 0);
        Due.is("fits(0)", x.fits(0), 15);
        x.seen(99, 0, 1);
        Due.is("fits(0), held behind day 99", x.fits(0), 0);
    }

    /** "the first DAY behind which other promises are HELD". */
    private static void unlikeOnTheFirstAndTheLastDay() {
        PromisesKept first = Due.with("0100091;1200099");
        first.set(0, 0, 1);
        Due.is("unlike(0, 1) on day 0", first.unlike(0, 1), 0);
        PromisesKept last = Due.with("0198991;1298999");
        last.set(0, 0, 1);
        Due.is("unlike(0, 1) on day 98", last.unlike(0, 1), 98);
        Due.is("unlike(1, 3) on day 98", last.unlike(1, 3), 98);
        PromisesKept twice = Due.with("5400031;0101051;1201059;2304301;3404309");
        twice.set(0, 0, 1);
        Due.is("unlike(0, 1): the first of two", twice.unlike(0, 1), 3);
    }

    /** "NONE": the same LAW, or like courses. */
    private static void unlikeNone() {
        PromisesKept x = Due.with("0100091;1200099");
        for (int law = 0; law < 4; law++) {
            Due.is("unlike of " + law + " and itself", x.unlike(law, law), -1);
            Due.is("unlike(0, " + law + "), slots enough", x.unlike(0, law), -1);
        }
        Due.is("unlike of no wants", new PromisesKept().unlike(0, 3), -1);
        int[] not = {-1, 4};
        for (int law : not) {
            Due.is("unlike(" + law + ", 0)", x.unlike(law, 0), Due.BAD);
            Due.is("unlike(0, " + law + ")", x.unlike(0, law), Due.BAD);
            Due.is("unlike(" + law + ", " + law + ")", x.unlike(law, law), Due.BAD);
        }
    }

    /** "WORTH of promises HELD, less that of those the other way about, as any number". */
    private static void owedAsAnyNumber() {
        PromisesKept x = Due.with(TEN);
        x.set(0, 0, 9);
        Due.is("owed(0, 1, 0)", x.owed(0, 1, 0), 81);
        Due.is("owed(1, 0, 0)", x.owed(1, 0, 0), -81);
        Due.is("owed(0, 1, 8)", x.owed(0, 1, 8), 81);
        Due.is("owed(0, 1, 9)", x.owed(0, 1, 9), 0);
        Due.is("owed(0, 5, 0)", x.owed(0, 5, 0), 0);
        Due.is("owed(5, 4, 99)", x.owed(5, 4, 99), 0);
        PromisesKept both = Due.with("0100095;1000095");
        Due.is("owed(0, 1, 0), set off", both.owed(0, 1, 0), 0);
        both.forgive(1, 0);
        Due.is("owed(0, 1, 1), one forgiven", both.owed(0, 1, 1), -5);
        int[][] bad = {{-1, 0, 0}, {6, 0, 0}, {0, -1, 0}, {0, 6, 0}, {0, 1, -1}, {0, 1, 100}};
        for (int[] b : bad) {
            Due.is("owed(" + b[0] + ", " + b[1] + ", " + b[2] + ")", both.owed(b[0], b[1], b[2]), Due.BAD_NUMBER);
        }
    }

    /** "BAD: -10002: also by one to oneself." */
    private static void owedToOneself() {
        PromisesKept x = Due.with(TEN);
        for (int person = 0; person < 6; person++) {
            Due.is("owed(" + person + ", " + person + ", 0)", x.owed(person, person, 0), Due.BAD_NUMBER);
        }
    }

    /** "CLEARED: .. the sum of amounts above 0": 0 of none, 81 of nine of worth 9. */
    private static void clearedOfNoneAndTheGreatest() {
        PromisesKept x = Due.with(TEN);
        x.set(0, 0, 9);
        Due.is("cleared(0)", x.cleared(0), 81);
        Due.is("cleared(9)", x.cleared(9), 0);
        Due.is("cleared(99)", x.cleared(99), 0);
        Due.is("cleared(-1)", x.cleared(-1), Due.BAD);
        Due.is("cleared(100)", x.cleared(100), Due.BAD);
        Due.is("cleared(0) of no wants", new PromisesKept().cleared(0), 0);
    }

    /** "what all would owe if each pair's were set off". */
    private static void eachPairSetOff() {
        PromisesKept like = Due.with("0100095;1000095");
        Due.is("cleared(0) of a pair alike", like.cleared(0), 0);
        PromisesKept unlike = Due.with("0100095;1000094");
        Due.is("cleared(0) of a pair", unlike.cleared(0), 1);
        PromisesKept back = Due.with("0100094;1000095");
        Due.is("cleared(0) of a pair, the other way about", back.cleared(0), 1);
        PromisesKept round = Due.with("4500095;5300095;3400095");
        Due.is("cleared(0) of a round of three", round.cleared(0), 15);
        PromisesKept pairs = Due.with("0100095;1000092;4500093;5400099");
        pairs.set(0, 0, 4);
        Due.is("cleared(0) of two pairs", pairs.cleared(0), 3 + 6);
    }
}
