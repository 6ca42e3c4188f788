/** Promises 11 to 18: held, waiting, trust, means, made, without, gain, best. */
public final class DaysTest {
    public static void main(String[] args) {
        bounds();
        heldAndWaiting();
        meansAreSpentOnlyOnWhatIsKept();
        aheadMustBeKept();
        ranks();
        trustRanksAsItStands();
        trustHasNoBounds();
        endsFreeSlotsTheSameDay();
        without();
        gain();
        Due.end();
    }

    private static void bounds() {
        PromisesKept x = Due.with("0100055");
        int[] noDays = {-1, 100, Integer.MIN_VALUE, Integer.MAX_VALUE};
        for (int day : noDays) {
            Due.is("held(" + day + ")", x.held(day), Due.BAD);
            Due.is("waiting(" + day + ")", x.waiting(day), Due.BAD);
            Due.is("trust(0, " + day + ")", x.trust(0, day), Due.BAD_NUMBER);
            Due.is("means(0, " + day + ")", x.means(0, day), Due.BAD);
        }
        int[] noPersons = {-1, 6};
        for (int person : noPersons) {
            Due.is("trust(" + person + ", 0)", x.trust(person, 0), Due.BAD_NUMBER);
            Due.is("means(" + person + ", 0)", x.means(person, 0), Due.BAD);
        }
        Due.is("made(-1, 0)", x.made(-1, 0), Due.BAD);
        Due.is("made(1, 0)", x.made(1, 0), Due.BAD);
        Due.is("made(0, -1)", x.made(0, -1), Due.BAD);
        Due.is("made(0, 3)", x.made(0, 3), Due.BAD);
        Due.is("gain(-1)", x.gain(-1), Due.BAD_NUMBER);
        Due.is("gain(4)", x.gain(4), Due.BAD_NUMBER);
    }

    private static void heldAndWaiting() {
        PromisesKept x = Due.with("0110205;1211306;2312147");
        x.set(0, 0, 1);
        Due.is("held(9)", x.held(9), 0);
        Due.is("waiting(9)", x.waiting(9), 0);
        Due.is("held(10)", x.held(10), 1);
        Due.is("waiting(11)", x.waiting(11), 2);
        Due.is("waiting(13)", x.waiting(13), 6);
        Due.is("waiting(14)", x.waiting(14), 2);
        Due.is("held(19)", x.held(19), 1);
        Due.is("held(20)", x.held(20), 2);
        Due.is("waiting(20)", x.waiting(20), 0);
        Due.is("held(30)", x.held(30), 0);
        Due.is("held(10) once more", x.held(10), 1);
        Due.fate(x, 0, 10, 20, 1);
        Due.fate(x, 1, 20, 30, 1);
        Due.fate(x, 2, -1, 14, 4);
        Due.is("trust(2, 99): what lapses is not broken", x.trust(2, 99), 50);
    }

    private static void meansAreSpentOnlyOnWhatIsKept() {
        PromisesKept x = Due.with("0100055;0200106;0300157");
        x.set(2, 0, 1);
        x.after(0, 2, 1);
        Due.fate(x, 0, 0, 5, 2);
        Due.is("means(0, 5)", x.means(0, 5), 1);
        Due.fate(x, 1, 0, 10, 1);
        Due.is("means(0, 10)", x.means(0, 10), 0);
        Due.fate(x, 2, 0, 15, 2);
        Due.is("means(0, 99)", x.means(0, 99), 0);
        Due.is("trust(0, 4)", x.trust(0, 4), 50);
        Due.is("trust(0, 5)", x.trust(0, 5), 45);
        Due.is("trust(0, 10)", x.trust(0, 10), 51);
        Due.is("trust(0, 15)", x.trust(0, 15), 44);
    }

    private static void aheadMustBeKept() {
        String two = "0100055;1200055";
        PromisesKept x = Due.with(two);
        x.after(1, 0, 1);
        Due.fate(x, 1, 0, 5, 1);
        x.after(0, 1, 1);
        Due.fate(x, 0, 0, 5, 2);
        Due.fate(x, 1, 0, 5, 2);
        PromisesKept of = Due.with(two);
        of.after(0, 2, 1);
        of.after(1, 9, 1);
        Due.fate(of, 0, 0, 5, 1);
        Due.fate(of, 1, 0, 5, 1);
        PromisesKept own = Due.with(two);
        own.after(0, 0, 1);
        Due.fate(own, 0, 0, 5, 2);
        PromisesKept forgiven = Due.with(two);
        forgiven.after(1, 0, 1);
        forgiven.forgive(2, 0);
        Due.fate(forgiven, 1, 0, 5, 2);
        PromisesKept lapsed = Due.with("0100099;1201055;2301099");
        lapsed.set(0, 0, 1);
        lapsed.after(2, 1, 1);
        lapsed.forgive(6, 0);
        Due.fate(lapsed, 1, -1, 5, 4);
        Due.fate(lapsed, 2, 6, 9, 2);
    }

    /** One slot, free from day 5 on: who is made then tells the law. */
    private static void ranks() {
        String text = "0100055;1203201;2302302;3404109;4501403";
        int[] next = {4, 3, 3, 2};
        for (int law = 0; law < 4; law++) {
            PromisesKept x = Due.with(text);
            x.set(0, 0, 1);
            x.set(1, 0, law);
            x.set(3, 2, 51);
            Due.is("held(5) by law " + law, x.held(5), 1 << next[law]);
        }
        for (int law = 0; law < 4; law++) {
            PromisesKept x = Due.with("0100055;1202209;2302209;3402209");
            x.set(0, 0, 1);
            x.set(1, 0, law);
            Due.is("of like ones the least, law " + law, x.held(5), 2);
        }
    }

    private static void trustRanksAsItStands() {
        PromisesKept x = Due.with("0100055;1200059;0201202;1201202");
        x.set(0, 0, 2);
        x.set(1, 0, 3);
        x.forgive(5, 0);
        Due.is("held(5): both", x.held(5), 12);
        PromisesKept one = Due.with("0100055;1202202;0202202");
        one.set(0, 0, 1);
        one.set(1, 0, 3);
        Due.is("held(5): kept that day, trusted more", one.held(5), 4);
        one.set(2, 0, 0);
        Due.is("held(5): broken that day, trusted less", one.held(5), 2);
    }

    private static void trustHasNoBounds() {
        PromisesKept x = Due.with("0100059;1000059");
        x.set(2, 0, 0);
        x.set(3, 0, 0);
        x.set(3, 1, 99);
        Due.is("trust(0, 5)", x.trust(0, 5), -9);
        Due.is("trust(1, 5)", x.trust(1, 5), 108);
    }

    private static void endsFreeSlotsTheSameDay() {
        PromisesKept x = Due.with("0100055;1201059;2301089;3405999");
        x.set(0, 0, 1);
        Due.fate(x, 0, 0, 5, 1);
        Due.fate(x, 1, -1, 5, 4);
        Due.fate(x, 2, 5, 8, 1);
        Due.fate(x, 3, 8, 99, 1);
        Due.is("held(99)", x.held(99), 0);
        x.forgive(3, 0);
        Due.fate(x, 0, 0, 3, 3);
        Due.fate(x, 1, 3, 5, 1);
        x.set(0, 0, 9);
        Due.is("held(1)", x.held(1), 7);
        x.set(0, 0, 2);
        Due.is("held(1)", x.held(1), 3);
    }

    private static void without() {
        PromisesKept x = Due.with("0100205;1201099");
        x.set(0, 0, 1);
        Due.is("without(0, 0, 0) of none", x.without(0, 0, 0), Due.BAD);
        x.forgive(3, 0);
        x.forgive(3, 0);
        x.forgive(6, 1);
        for (int n = 0; n < 2; n++) {
            Due.is("without(" + n + ", 0, 1): it is told twice", x.without(n, 0, 1), 3);
            Due.is("without(" + n + ", 1, 2)", x.without(n, 1, 2), 3);
        }
        Due.is("without(2, 1, 0)", x.without(2, 1, 0), 3);
        Due.is("without(2, 1, 1)", x.without(2, 1, 1), 9);
        Due.is("without(2, 1, 2)", x.without(2, 1, 2), 1);
        x.undo();
        x.undo();
        Due.is("without(0, 0, 1)", x.without(0, 0, 1), 20);
        Due.is("without(0, 1, 0)", x.without(0, 1, 0), -1);
        Due.is("without(0, 1, 2)", x.without(0, 1, 2), 4);
        Due.fate(x, 0, 0, 3, 3);
        Due.is("without(-1, 0, 0)", x.without(-1, 0, 0), Due.BAD);
        Due.is("without(1, 0, 0)", x.without(1, 0, 0), Due.BAD);
        Due.is("without(0, -1, 0)", x.without(0, -1, 0), Due.BAD);
        Due.is("without(0, 2, 0)", x.without(0, 2, 0), Due.BAD);
        Due.is("without(0, 0, -1)", x.without(0, 0, -1), Due.BAD);
        Due.is("without(0, 0, 3)", x.without(0, 0, 3), Due.BAD);
    }

    private static void gain() {
        PromisesKept x = Due.with("0100105;1201209;2301153;3401124");
        x.set(0, 0, 1);
        Due.is("gain(0)", x.gain(0), 5 + 9);
        Due.is("gain(1)", x.gain(1), 5 + 9);
        Due.is("gain(2)", x.gain(2), 5 + 4 + 3 + 9);
        x.set(3, 2, 99);
        Due.is("gain(3)", x.gain(3), 5 + 3 + 9);
        Due.is("best()", x.best(), 2);
        x.set(2, 1, 0);
        Due.is("gain(0), broken", x.gain(0), 5 - 9);
        Due.is("law is not changed", x.set(1, 0, 0), 0);
        x.set(2, 0, 0);
        Due.is("gain(0), below 0", x.gain(0), -14);
        x.forgive(10, 0);
        x.forgive(1, 0);
        Due.is("gain(1), forgiven", x.gain(1), -9);
        Due.is("best() of like ones", Due.with("0100055").best(), 0);
    }
}
