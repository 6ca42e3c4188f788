import java.util.Random;

/** Promises 2 to 30, 37 and 38 on wants drawn by lot, with a fixed seed, against the Model. */
public final class ModelTest {
    private static final Random LOT = new Random(20261118);

    public static void main(String[] args) {
        for (int run = 0; run < 400; run++) {
            compare(run);
        }
        for (int run = 0; run < 3000; run++) {
            compareFaults();
        }
        Due.end();
    }

    private static void compare(int run) {
        PromisesKept x = new PromisesKept();
        Model m = new Model();
        type(x, m, wants(1 + LOT.nextInt(10), 3 + LOT.nextInt(60), LOT.nextInt(3) == 0 ? 2 : 6));
        settle(x, m);
        for (int change = 0; change < 4; change++) {
            String at = "run " + run + ", change " + change + ", " + m.text + ": ";
            days(at, x, m);
            slotsAndRings(at, x, m);
            seenAndOwed(at, x, m);
            Due.is(at + "digest()", x.digest(), m.digest());
            changeOne(x, m);
        }
    }

    private static void type(PromisesKept x, Model m, String text) {
        Due.type(x, text);
        m.text = m.text + text;
    }

    private static String wants(int n, int days, int persons) {
        StringBuilder text = new StringBuilder();
        for (int w = 0; w < n; w++) {
            int who = LOT.nextInt(persons);
            int to = (who + 1 + LOT.nextInt(persons - 1)) % persons;
            int asked = LOT.nextInt(days);
            int due = Math.min(99, asked + 1 + LOT.nextInt(days));
            text.append(w == 0 ? "" : ";").append(who).append(to).append(String.format("%02d%02d", asked, due));
            text.append(1 + LOT.nextInt(LOT.nextBoolean() ? 3 : 9));
        }
        return text.toString();
    }

    private static void settle(PromisesKept x, Model m) {
        for (int n = 0; n < 12; n++) {
            changeOne(x, m);
        }
    }

    private static void changeOne(PromisesKept x, Model m) {
        int a = LOT.nextInt(10);
        int b = LOT.nextInt(10);
        int person = LOT.nextInt(6);
        switch (LOT.nextInt(9)) {
            case 0:
                m.slots = 1 + LOT.nextInt(LOT.nextBoolean() ? 3 : 9);
                x.set(0, 0, m.slots);
                break;
            case 1:
                m.law = LOT.nextInt(4);
                x.set(1, 0, m.law);
                break;
            case 2:
                m.means[person] = LOT.nextInt(4);
                x.set(2, person, m.means[person]);
                break;
            case 3:
                m.trust[person] = LOT.nextBoolean() ? LOT.nextInt(100) : 48 + LOT.nextInt(5);
                x.set(3, person, m.trust[person]);
                break;
            case 4:
            case 5:
                m.after[a][b] = LOT.nextInt(5) != 0;
                x.after(a, b, m.after[a][b] ? 1 : 0);
                break;
            case 6:
                int day = LOT.nextInt(LOT.nextBoolean() ? 100 : 20);
                if (x.forgive(day, a) > 0) {
                    m.forgivings.add(new int[] {day, a});
                }
                break;
            case 7:
                int then = LOT.nextInt(40);
                int is = m.now().held[then] >> a & 1;
                if (x.seen(then, a, is) > 0) {
                    m.seen.add(new int[] {then, a, is});
                }
                break;
            default:
                if (LOT.nextInt(3) == 0 && x.undo() >= 0) {
                    m.forgivings.remove(m.forgivings.size() - 1);
                }
        }
    }

    private static void days(String at, PromisesKept x, Model m) {
        Model.Chronicle c = m.now();
        for (int n = 0; n < 100; n++) {
            int day = n * 37 % 100;
            Due.is(at + "held(" + day + ")", x.held(day), c.held[day]);
            Due.is(at + "waiting(" + day + ")", x.waiting(day), c.waiting[day]);
            int person = LOT.nextInt(6);
            Due.is(at + "trust(" + person + ", " + day + ")", x.trust(person, day), c.trust[day][person]);
            Due.is(at + "means(" + person + ", " + day + ")", x.means(person, day), c.means[day][person]);
        }
        for (Model.Word w : c.words) {
            int[] figures = {w.who, w.to, w.asked, w.due, w.worth};
            for (int what = 0; what < 5; what++) {
                Due.is(at + "want(" + w.number + ", " + what + ")", x.want(w.number, what), figures[what]);
            }
            for (int what = 0; what < 3; what++) {
                Due.is(at + "made(" + w.number + ", " + what + ")", x.made(w.number, what), Model.fate(w, what));
            }
        }
        for (int f = 0; f < m.forgivings.size(); f++) {
            for (Model.Word w : m.chronicle(m.law, m.slots, f).words) {
                int what = LOT.nextInt(3);
                Due.is(at + "without(" + f + ", " + w.number + ", " + what + ")", x.without(f, w.number, what),
                    Model.fate(w, what));
            }
        }
        for (int law = 0; law < 4; law++) {
            Due.is(at + "gain(" + law + ")", x.gain(law), m.gain(law));
        }
        Due.is(at + "best()", x.best(), m.best());
        int lapsed = Model.how(c, 4);
        int[] counts = {c.words.size(), m.text.length(), c.words.size() - lapsed, Model.how(c, 1), Model.how(c, 2),
            lapsed, m.forgivings.size(), m.seen.size(), 0};
        for (int what = 0; what < 9; what++) {
            Due.is(at + "count(" + what + ")", x.count(what), counts[what]);
        }
    }

    private static void slotsAndRings(String at, PromisesKept x, Model m) {
        for (int n = 0; n < 12; n++) {
            int day = LOT.nextInt(60);
            int k = 1 + LOT.nextInt(m.slots);
            int most = LOT.nextInt(LOT.nextBoolean() ? 100 : 12);
            int[] room = m.room(day, k, most);
            String call = at + "room(" + day + ", " + k + ", " + most + ", ";
            Due.is(call + "0)", x.room(day, k, most, 0), room[0]);
            Due.is(call + "1)", x.room(day, k, most, 1), room[1]);
            Due.is(at + "price(" + day + ")", x.price(day), m.price(day));
        }
        Due.is(at + "hoarder()", x.hoarder(), m.hoarder());
        Due.is(at + "rings()", x.rings(), m.rings());
        int freed = m.freed();
        Due.is(at + "freed(0)", x.freed(0), Integer.bitCount(freed));
        Due.is(at + "freed(1)", x.freed(1), freed);
        for (int w = 0; w < x.count(0); w++) {
            Due.is(at + "depth(" + w + ")", x.depth(w), m.depth(w));
        }
    }

    private static void seenAndOwed(String at, PromisesKept x, Model m) {
        int laws = 0;
        for (int law = 0; law < 4; law++) {
            laws |= m.fits(law, m.slots) ? 1 << law : 0;
        }
        int slots = 0;
        for (int n = 1; n <= 9; n++) {
            slots |= m.fits(m.law, n) ? 1 << n - 1 : 0;
        }
        Due.is(at + "fits(0)", x.fits(0), laws);
        Due.is(at + "fits(1)", x.fits(1), slots);
        for (int a = 0; a < 4; a++) {
            for (int b = 0; b < 4; b++) {
                Due.is(at + "unlike(" + a + ", " + b + ")", x.unlike(a, b), m.unlike(a, b));
            }
        }
        int day = LOT.nextInt(60);
        for (int a = 0; a < 6; a++) {
            for (int b = 0; b < 6; b++) {
                Due.is(at + "owed(" + a + ", " + b + ", " + day + ")", x.owed(a, b, day),
                    a == b ? Due.BAD_NUMBER : m.owed(a, b, day));
            }
        }
        Due.is(at + "cleared(" + day + ")", x.cleared(day), m.cleared(day));
    }

    /** A good text with one byte changed, put in or taken out. */
    private static void compareFaults() {
        StringBuilder text = new StringBuilder(wants(1 + LOT.nextInt(9), 5 + LOT.nextInt(90), 6));
        int at = LOT.nextInt(text.length());
        char sign = LOT.nextInt(6) == 0 ? (char) LOT.nextInt(256) : "0123456789;/:".charAt(LOT.nextInt(13));
        switch (LOT.nextInt(4)) {
            case 0:
                text.setCharAt(at, sign);
                break;
            case 1:
                text.insert(at, sign);
                break;
            case 2:
                text.deleteCharAt(at);
                break;
            default:
                text.setLength(at);
        }
        PromisesKept x = new PromisesKept();
        Model m = new Model();
        type(x, m, text.toString());
        Due.is("fault() of " + text, x.fault(), m.fault());
        Due.is("count(0) of " + text, x.count(0), m.words().size());
        if (x.count(0) == 0) {
            Due.is("digest() of " + text, x.digest(), m.digest());
        }
    }
}
