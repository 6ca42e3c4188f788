import java.util.ArrayList;
import java.util.Comparator;
import java.util.List;
import java.util.TreeSet;
import java.util.regex.Matcher;
import java.util.regex.Pattern;

/** The document told a second time, in another way: what ModelTest compares the class with. */
final class Model {
    private static final Pattern WANT = Pattern.compile("([0-5])([0-5])([0-9][0-9])([0-9][0-9])([1-9])");

    static final class Word {
        int number, who, to, asked, due, worth;
        int made, ended, how;
    }

    /** All that a course of days leaves behind. */
    static final class Chronicle {
        final List<Word> words = new ArrayList<>();
        final int[] held = new int[100], waiting = new int[100];
        final int[][] trust = new int[100][], means = new int[100][];
    }

    String text = "";
    int slots = 3, law = 0;
    final int[] means = {9, 9, 9, 9, 9, 9}, trust = {50, 50, 50, 50, 50, 50};
    final boolean[][] after = new boolean[10][10];
    final List<int[]> forgivings = new ArrayList<>();
    final List<int[]> seen = new ArrayList<>();

    /** The first place at which what stands so far begins no good text. */
    int fault() {
        for (int end = 1; end <= text.length(); end++) {
            if (!beginsWell(text.substring(0, end))) {
                return end - 1;
            }
        }
        return text.isEmpty() || text.length() % 8 == 7 ? -1 : text.length();
    }

    private static boolean beginsWell(String begun) {
        String pattern = "9801981";
        int last = begun.length() / 8 * 8;
        for (int from = 0; from < begun.length(); from += 8) {
            String part = begun.substring(from, Math.min(begun.length(), from + 8));
            if (from < last && part.charAt(7) != ';') {
                return false;
            }
            String word = part.substring(0, Math.min(7, part.length()));
            // What is not there yet is filled so that it may go on; checks wait for all their figures.
            String filled = word.length() >= 2 ? word : word.startsWith("0") ? word + "1" : word + "0";
            boolean days = word.length() >= 6;
            filled = days ? filled : filled + pattern.substring(filled.length());
            filled = filled.length() == 7 ? filled : filled + "1";
            Matcher m = WANT.matcher(filled);
            if (!m.matches() || m.group(1).equals(m.group(2)) || days && m.group(4).compareTo(m.group(3)) <= 0) {
                return false;
            }
        }
        return true;
    }

    List<Word> words() {
        List<Word> words = new ArrayList<>();
        if (fault() != -1 || text.isEmpty()) {
            return words;
        }
        for (String part : text.split(";")) {
            Matcher m = WANT.matcher(part);
            m.matches();
            Word w = new Word();
            w.number = words.size();
            w.who = Integer.parseInt(m.group(1));
            w.to = Integer.parseInt(m.group(2));
            w.asked = Integer.parseInt(m.group(3));
            w.due = Integer.parseInt(m.group(4));
            w.worth = Integer.parseInt(m.group(5));
            w.made = -1;
            w.ended = -1;
            words.add(w);
        }
        return words;
    }

    Chronicle chronicle(int byLaw, int withSlots, int leftOut) {
        Chronicle c = new Chronicle();
        c.words.addAll(words());
        int[] trusted = trust.clone();
        int[] left = means.clone();
        for (int day = 0; day < 100; day++) {
            for (Word w : c.words) {
                if (w.made >= 0 && w.ended < 0 && w.due == day) {
                    boolean good = left[w.who] > 0;
                    for (Word other : c.words) {
                        good &= !after[w.number][other.number] || other.how == 1;
                    }
                    w.ended = day;
                    w.how = good ? 1 : 2;
                    left[w.who] -= good ? 1 : 0;
                    trusted[w.who] += good ? w.worth : -w.worth;
                }
            }
            for (int f = 0; f < forgivings.size(); f++) {
                int[] told = forgivings.get(f);
                if (f != leftOut && told[0] == day && told[1] < c.words.size()) {
                    Word w = c.words.get(told[1]);
                    if (w.made >= 0 && w.ended < 0) {
                        w.ended = day;
                        w.how = 3;
                    }
                }
            }
            for (Word w : c.words) {
                if (w.made < 0 && w.due == day) {
                    w.ended = day;
                    w.how = 4;
                }
            }
            List<Word> queue = new ArrayList<>();
            for (Word w : c.words) {
                if (w.asked <= day && w.made < 0 && w.ended < 0) {
                    queue.add(w);
                }
            }
            Comparator<Word> order = byLaw == 0 ? Comparator.comparingInt(w -> w.asked)
                : byLaw == 1 ? Comparator.comparingInt(w -> -w.worth)
                : byLaw == 2 ? Comparator.comparingInt(w -> w.due)
                : Comparator.comparingInt(w -> -trusted[w.who]);
            queue.sort(order);
            for (Word w : queue) {
                if (held(c.words).size() < withSlots) {
                    w.made = day;
                }
            }
            for (Word w : c.words) {
                c.held[day] |= w.made >= 0 && w.ended < 0 ? 1 << w.number : 0;
                c.waiting[day] |= w.asked <= day && w.made < 0 && w.ended < 0 ? 1 << w.number : 0;
            }
            c.trust[day] = trusted.clone();
            c.means[day] = left.clone();
        }
        return c;
    }

    Chronicle now() {
        return chronicle(law, slots, -1);
    }

    private static List<Word> held(List<Word> words) {
        List<Word> held = new ArrayList<>();
        for (Word w : words) {
            if (w.made >= 0 && w.ended < 0) {
                held.add(w);
            }
        }
        return held;
    }

    static int fate(Word w, int what) {
        return what == 0 ? w.made : what == 1 ? w.ended : w.how;
    }

    static int how(Chronicle c, int how) {
        int many = 0;
        for (Word w : c.words) {
            many += w.how == how ? 1 : 0;
        }
        return many;
    }

    int gain(int byLaw) {
        int sum = 0;
        for (Word w : chronicle(byLaw, slots, -1).words) {
            sum += w.how == 1 ? w.worth : w.how == 2 ? -w.worth : 0;
        }
        return sum;
    }

    int best() {
        TreeSet<Integer> order = new TreeSet<>(Comparator.comparingInt((Integer l) -> -gain(l)).thenComparingInt(l -> l));
        order.addAll(List.of(0, 1, 2, 3));
        return order.first();
    }

    /** Every set of what is held, the cheapest and least one kept. */
    int[] room(int day, int k, int most) {
        Chronicle c = now();
        int[] best = null;
        for (int set = 0; set < 1024; set++) {
            if ((set | c.held[day]) != c.held[day]) {
                continue;
            }
            int[] loss = new int[6];
            int worth = 0;
            int stay = 0;
            for (Word w : c.words) {
                boolean goes = (set >> w.number & 1) == 1;
                loss[w.to] += goes ? w.worth : 0;
                worth += goes ? w.worth : 0;
                stay += !goes && (c.held[day] >> w.number & 1) == 1 ? 1 : 0;
            }
            boolean fair = slots - stay >= k;
            for (int l : loss) {
                fair &= l <= most;
            }
            if (fair && (best == null || worth < best[0])) {
                best = new int[] {worth, set};
            }
        }
        return best == null ? new int[] {-1, -1} : best;
    }

    int price(int day) {
        Chronicle c = now();
        return c.words.stream().filter(w -> (c.waiting[day] >> w.number & 1) == 1).mapToInt(w -> w.worth).max().orElse(0);
    }

    int hoarder() {
        Chronicle c = now();
        int[] days = new int[6];
        for (int day = 0; day < 100; day++) {
            for (Word w : c.words) {
                days[w.who] += c.held[day] >> w.number & 1;
            }
        }
        int hoarder = -1;
        for (int p = 5; p >= 0; p--) {
            hoarder = days[p] > 0 && (hoarder < 0 || days[p] >= days[hoarder]) ? p : hoarder;
        }
        return hoarder;
    }

    private boolean[][] reach(int gone, int n) {
        boolean[][] r = new boolean[n][n];
        for (int a = 0; a < n; a++) {
            for (int b = 0; b < n; b++) {
                r[a][b] = after[a][b] && (gone >> a & 1) == 0 && (gone >> b & 1) == 0;
            }
        }
        for (int m = 0; m < n; m++) {
            for (int a = 0; a < n; a++) {
                for (int b = 0; b < n; b++) {
                    r[a][b] |= r[a][m] && r[m][b];
                }
            }
        }
        return r;
    }

    int rings() {
        return rings(0, words().size());
    }

    private int rings(int gone, int n) {
        boolean[][] r = reach(gone, n);
        int bits = 0;
        for (int a = 0; a < r.length; a++) {
            bits |= r[a][a] ? 1 << a : 0;
        }
        return bits;
    }

    int freed() {
        int n = words().size();
        int best = (1 << n) - 1;
        for (int set = best; set >= 0; set--) {
            if (Integer.bitCount(set) <= Integer.bitCount(best) && rings(set, n) == 0) {
                best = set;
            }
        }
        return best;
    }

    int depth(int want) {
        boolean[][] r = reach(0, words().size());
        for (int b = 0; b < r.length; b++) {
            if (r[b][b] && (b == want || r[want][b])) {
                return -1;
            }
        }
        return longest(want, r.length);
    }

    private int longest(int want, int n) {
        int most = 0;
        for (int b = 0; b < n; b++) {
            most = after[want][b] ? Math.max(most, longest(b, n)) : most;
        }
        return most + 1;
    }

    boolean fits(int byLaw, int withSlots) {
        Chronicle c = chronicle(byLaw, withSlots, -1);
        for (int[] s : seen) {
            if ((c.held[s[0]] >> s[1] & 1) != s[2]) {
                return false;
            }
        }
        return true;
    }

    int unlike(int a, int b) {
        Chronicle one = chronicle(a, slots, -1);
        Chronicle other = chronicle(b, slots, -1);
        for (int day = 0; day < 100; day++) {
            if (one.held[day] != other.held[day]) {
                return day;
            }
        }
        return -1;
    }

    int owed(int a, int b, int day) {
        return owed(now(), a, b, day);
    }

    private static int owed(Chronicle c, int a, int b, int day) {
        int sum = 0;
        for (Word w : c.words) {
            if ((c.held[day] >> w.number & 1) == 1) {
                sum += w.who == a && w.to == b ? w.worth : w.who == b && w.to == a ? -w.worth : 0;
            }
        }
        return sum;
    }

    int cleared(int day) {
        Chronicle c = now();
        int sum = 0;
        for (int a = 0; a < 6; a++) {
            for (int b = 0; b < 6; b++) {
                sum += a == b ? 0 : Math.max(0, owed(c, a, b, day));
            }
        }
        return sum;
    }

    private int fitting(boolean laws) {
        int bits = 0;
        for (int n = 0; n < (laws ? 4 : 9); n++) {
            bits |= fits(laws ? n : law, laws ? slots : n + 1) ? 1 << n : 0;
        }
        return bits;
    }

    /** The answers in the document's order, by this model alone. */
    long digest() {
        Chronicle c = now();
        List<Integer> all = new ArrayList<>(List.of(c.words.size(), text.length(), c.words.size() - how(c, 4), how(c, 1),
            how(c, 2), how(c, 4), forgivings.size(), seen.size(), fault()));
        for (Word w : c.words) {
            all.addAll(List.of(w.who, w.to, w.asked, w.due, w.worth, w.made, w.ended, w.how, depth(w.number)));
        }
        for (int day : new int[] {0, 10, 30}) {
            int[] room = room(day, 1, 9);
            all.addAll(List.of(c.held[day], c.waiting[day], price(day), cleared(day), room[0], room[1]));
        }
        for (int person = 0; person < 6; person++) {
            all.addAll(List.of(c.trust[40][person], c.means[40][person], person == 0 ? -10002 : owed(c, person, 0, 20)));
        }
        int freed = freed();
        all.addAll(List.of(gain(0), gain(1), gain(2), gain(3), best(), hoarder(), rings()));
        all.addAll(List.of(Integer.bitCount(freed), freed, fitting(true), fitting(false), unlike(0, 1)));
        long h = 17;
        for (int one : all) {
            h = 31 * h + one;
        }
        return h;
    }
}
