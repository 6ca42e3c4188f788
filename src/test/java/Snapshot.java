import java.util.ArrayList;
import java.util.List;

/**
 * All that an object's answers tell of its state, but for count() 8. Taking it uses the object up:
 * what is set is told only by setting it.
 */
final class Snapshot {
    private static final int LEAST = Integer.MIN_VALUE;

    private Snapshot() {
    }

    static List<Long> of(PromisesKept x) {
        List<Long> told = new ArrayList<>();
        told.add(x.digest());
        for (int s = 0; s < 4; s++) {
            sheet(x, s, told);
        }
        forgivingsOneByOne(x, told);
        for (int person = 0; person < 6; person++) {
            told.add((long) x.set(2, person, 0));
            told.add((long) x.set(3, person, 0));
        }
        told.add((long) x.set(0, 0, 1));
        told.add((long) x.set(1, 0, 0));
        for (int pair = 0; pair < 100; pair++) {
            told.add((long) x.after(pair / 10, pair % 10, 0));
        }
        return told;
    }

    /** Its form, its items, how many they are; where none is, get() answers the least int. */
    private static void sheet(PromisesKept x, int s, List<Long> told) {
        int form = 0;
        for (int f = 0; f < 3; f++) {
            form = x.put(s, f, -1, 0) == Due.INDEX ? f : form;
        }
        told.add((long) form);
        for (int i = 0; i < 48; i++) {
            int item = x.get(s, form, i);
            told.add((long) item);
            if (item == LEAST) {
                break;
            }
        }
        told.add((long) x.lose(s));
    }

    private static void forgivingsOneByOne(PromisesKept x, List<Long> told) {
        long left = x.undo();
        told.add(left);
        for (int n = 0; n < 8 && left >= 0; n++) {
            told.add((long) x.made(0, 1));
            told.add((long) x.made(1, 1));
            left = x.undo();
            told.add(left);
        }
    }
}
