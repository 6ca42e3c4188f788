import java.math.BigInteger;

/** The bounds that the document tells of SHEETS, FINDINGS, count() and digest(): a test for each sentence. */
public final class EdgesOfSheetsTest {
    private static final int LEAST = Integer.MIN_VALUE;
    private static final int MOST = Integer.MAX_VALUE;
    private static final String TEN_OF_ONE =
        "0100019;0100029;0100039;0100049;0100059;0100069;0100079;0100089;0100099;0101109";

    public static void main(String[] args) {
        sheetsFrom0To3();
        formsFrom0To2();
        itemsFrom0To48();
        itemsAre0AtFirst();
        sizeBelow0();
        loseTellsHowMany();
        theLowestBitsThatItHas();
        theFirstAndTheLastItem();
        getAnswersTheLeastInt();
        copyFromAndToTheEnds();
        copyOfNone();
        copyNotSoMany();
        copyOntoItselfAsTheyWere();
        copyOfTheWholeRow();
        copyKeepsTheItemsOfEachForm();
        writeSixAtMost();
        writeTheLowestBits();
        writeOnTheFirstAndTheLastDay();
        countOfNoneAndAll();
        digestAsLongsThatWrap();
        digestOnTheDaysTold();
        digestDoesNotTellCount8();
        Due.end();
    }

    private static void finds(PromisesKept x, String call, int finding) {
        Due.is(call, Calls.answer(x, call), call.startsWith("get") ? LEAST : -10 - finding);
        Due.is("count(8) behind " + call, x.count(8), finding);
    }

    private static void itemsAre(PromisesKept x, int s, int form, int... items) {
        for (int i = 0; i < items.length; i++) {
            Due.is("get(" + s + ", " + form + ", " + i + ")", x.get(s, form, i), items[i]);
        }
        Due.is("no more items", x.get(s, form, items.length), LEAST);
    }

    private static PromisesKept withRow(int form, int... items) {
        PromisesKept x = new PromisesKept();
        x.sheet(0, form, items.length);
        for (int i = 0; i < items.length; i++) {
            x.put(0, form, i, items[i]);
        }
        return x;
    }

    /** "SHEETS 0 .. 3 are LOST (at first)": each by itself. */
    private static void sheetsFrom0To3() {
        PromisesKept x = new PromisesKept();
        for (int s = 0; s < 4; s++) {
            finds(x, "lose " + s, 1);
            Due.is("sheet(" + s + ", 2, 1)", x.sheet(s, 2, 1), 1);
            x.put(s, 2, 0, s + 5);
        }
        for (int s = 0; s < 4; s++) {
            Due.is("get(" + s + ", 2, 0)", x.get(s, 2, 0), s + 5);
        }
        Due.is("lose(2)", x.lose(2), 1);
        finds(x, "get 2 2 0", 1);
        Due.is("the third stays", x.get(3, 2, 0), 8);
        Due.is("sheet(-1, 0, 0)", x.sheet(-1, 0, 0), Due.BAD);
        Due.is("sheet(4, 0, 0)", x.sheet(4, 0, 0), Due.BAD);
    }

    /** "a row of a FORM: 0 bytes, 1 shorts, 2 ints"; "3 CAST: it has another FORM". */
    private static void formsFrom0To2() {
        PromisesKept x = new PromisesKept();
        Due.is("sheet(0, -1, 1)", x.sheet(0, -1, 1), Due.BAD);
        Due.is("sheet(0, 3, 1)", x.sheet(0, 3, 1), Due.BAD);
        for (int form = 0; form < 3; form++) {
            Due.is("sheet(0, " + form + ", 1)", x.sheet(0, form, 1), 1);
            for (int as = 0; as < 3; as++) {
                if (as == form) {
                    Due.is("put as it is", x.put(0, as, 0, 5), 1);
                    Due.is("get as it is", x.get(0, as, 0), 5);
                } else {
                    finds(x, "put 0 " + as + " 0 6", 3);
                    finds(x, "get 0 " + as + " 0", 3);
                    finds(x, "put 0 " + as + " 1 6", 3);
                }
            }
            Due.is("it stays", x.get(0, form, 0), 5);
        }
    }

    /** "of 0 to 48 items"; BAD: "above 48". */
    private static void itemsFrom0To48() {
        for (int form = 0; form < 3; form++) {
            PromisesKept x = new PromisesKept();
            Due.is("sheet of 48", x.sheet(0, form, 48), 48);
            Due.is("put the last", x.put(0, form, 47, 9), 1);
            Due.is("get the last", x.get(0, form, 47), 9);
            finds(x, "put 0 " + form + " 48 9", 2);
            finds(x, "get 0 " + form + " 48", 2);
            Due.is("sheet of 49", x.sheet(0, form, 49), Due.BAD);
            Due.is("sheet of most", x.sheet(0, form, MOST), Due.BAD);
            Due.is("the last stays", x.get(0, form, 47), 9);
            Due.is("sheet of 0", x.sheet(0, form, 0), 0);
            finds(x, "put 0 " + form + " 0 9", 2);
            finds(x, "get 0 " + form + " 0", 2);
            Due.is("lose of 0: it was not lost", x.lose(0), 0);
            finds(x, "lose 0", 1);
        }
    }

    /** "(0 at first)": also where another row stood, of whatever FORM. */
    private static void itemsAre0AtFirst() {
        PromisesKept x = new PromisesKept();
        for (int n = 0; n < 6; n++) {
            int form = n % 3;
            x.sheet(1, form, 48);
            boolean all = true;
            for (int i = 0; i < 48; i += 7) {
                all &= x.get(1, form, i) == 0;
                x.put(1, form, i, -1);
            }
            Due.is("all 0", all ? 1 : 0, 1);
            if (n == 3) {
                x.lose(1);
            }
        }
        x.sheet(1, 2, 2);
        x.put(1, 2, 1, 7);
        x.sheet(1, 2, 1);
        x.sheet(1, 2, 2);
        Due.is("shorter, then longer", x.get(1, 2, 1), 0);
    }

    /** "5 SIZE: below 0": the SHEET stays as it was. */
    private static void sizeBelow0() {
        PromisesKept x = withRow(1, 7, 8);
        finds(x, "sheet 0 1 -1", 5);
        finds(x, "sheet 0 0 " + LEAST, 5);
        itemsAre(x, 0, 1, 7, 8);
        finds(x, "sheet 3 2 -1", 5);
        finds(x, "lose 3", 1);
        Due.is("sheet(3, 2, 0)", x.sheet(3, 2, 0), 0);
        Due.is("sheet(4, 0, -1)", x.sheet(4, 0, -1), Due.BAD);
        Due.is("sheet(0, 3, -1)", x.sheet(0, 3, -1), Due.BAD);
        Due.is("count(8) stays", x.count(8), 1);
    }

    /** "It is LOST: how many items it had." */
    private static void loseTellsHowMany() {
        PromisesKept x = new PromisesKept();
        for (int n = 0; n <= 48; n++) {
            x.sheet(n % 4, n % 3, n);
            Due.is("lose of " + n, x.lose(n % 4), n);
            Due.is("lose again", x.lose(n % 4), Due.NULL);
        }
        Due.is("lose(-1)", x.lose(-1), Due.BAD);
        Due.is("lose(4)", x.lose(4), Due.BAD);
    }

    private static void putThenGet(int form, int v, int due) {
        PromisesKept x = withRow(form, 1, v, 3);
        Due.is("get of " + v + " in form " + form, x.get(0, form, 1), due);
        Due.is("the one ahead stays", x.get(0, form, 0), 1);
        Due.is("the one behind stays", x.get(0, form, 2), 3);
    }

    /** "becomes v (the lowest bits that it has)": eight, sixteen, all. */
    private static void theLowestBitsThatItHas() {
        int[][] bytes = {{127, 127}, {128, -128}, {255, -1}, {256, 0}, {257, 1}, {-128, -128}, {-129, 127}, {-256, 0},
            {-1, -1}, {MOST, -1}, {LEAST, 0}, {0x1234567f, 0x7f}, {0x12345680, -128}};
        for (int[] b : bytes) {
            putThenGet(0, b[0], b[1]);
        }
        int[][] shorts = {{32767, 32767}, {32768, -32768}, {65535, -1}, {65536, 0}, {65537, 1}, {-32768, -32768},
            {-32769, 32767}, {-65536, 0}, {-1, -1}, {MOST, -1}, {LEAST, 0}, {255, 255}, {128, 128}, {0x12347fff, 0x7fff}};
        for (int[] s : shorts) {
            putThenGet(1, s[0], s[1]);
        }
        int[] ints = {0, -1, 255, 65536, MOST, LEAST, LEAST + 1};
        for (int v : ints) {
            putThenGet(2, v, v);
        }
    }

    /** "2 INDEX: there is no such item": ahead of the first, behind the last. */
    private static void theFirstAndTheLastItem() {
        PromisesKept x = withRow(2, 5, 6, 7);
        itemsAre(x, 0, 2, 5, 6, 7);
        int[] none = {-1, 3, 47, 48, LEAST, MOST};
        for (int i : none) {
            finds(x, "lose 1", 1);
            finds(x, "put 0 2 " + i + " 1", 2);
            finds(x, "lose 1", 1);
            finds(x, "get 0 2 " + i, 2);
        }
        itemsAre(x, 0, 2, 5, 6, 7);
    }

    /** "BAD: the least int; so are NULL, CAST, INDEX (count() 8 tells)"; the least int may be an item, too. */
    private static void getAnswersTheLeastInt() {
        PromisesKept x = withRow(2, LEAST);
        Due.is("get of the least int", x.get(0, 2, 0), LEAST);
        Due.is("count(8): it was an item", x.count(8), 0);
        int[][] bad = {{-1, 0, 0}, {4, 0, 0}, {0, -1, 0}, {0, 3, 0}, {1, 3, 0}};
        for (int[] b : bad) {
            Due.is("get(" + b[0] + ", " + b[1] + ", " + b[2] + ")", x.get(b[0], b[1], b[2]), LEAST);
            Due.is("count(8): BAD is no finding", x.count(8), 0);
        }
        finds(x, "get 1 2 0", 1);
        finds(x, "get 0 1 0", 3);
        finds(x, "get 0 2 1", 2);
    }

    private static PromisesKept twoRows() {
        PromisesKept x = withRow(2, 1, 2, 3, 4, 5);
        x.sheet(1, 2, 3);
        return x;
    }

    /** "n items of SHEET s, from i on, come to SHEET t .., from j on": the first and the last of each. */
    private static void copyFromAndToTheEnds() {
        PromisesKept x = twoRows();
        Due.is("copy(0, 0, 1, 0, 3)", x.copy(0, 0, 1, 0, 3), 1);
        itemsAre(x, 1, 2, 1, 2, 3);
        Due.is("copy(0, 2, 1, 0, 3)", x.copy(0, 2, 1, 0, 3), 1);
        itemsAre(x, 1, 2, 3, 4, 5);
        Due.is("copy(0, 0, 1, 2, 1)", x.copy(0, 0, 1, 2, 1), 1);
        itemsAre(x, 1, 2, 3, 4, 1);
        Due.is("copy(0, 4, 1, 0, 1)", x.copy(0, 4, 1, 0, 1), 1);
        itemsAre(x, 1, 2, 5, 4, 1);
        itemsAre(x, 0, 2, 1, 2, 3, 4, 5);
    }

    /** No items at all may come, from the end and to the end. */
    private static void copyOfNone() {
        PromisesKept x = twoRows();
        int[][] ends = {{0, 0}, {5, 0}, {0, 3}, {5, 3}};
        for (int[] e : ends) {
            Due.is("copy(0, " + e[0] + ", 1, " + e[1] + ", 0)", x.copy(0, e[0], 1, e[1], 0), 1);
        }
        x.sheet(2, 2, 0);
        Due.is("copy from an empty row", x.copy(2, 0, 1, 3, 0), 1);
        Due.is("copy to an empty row", x.copy(1, 3, 2, 0, 0), 1);
        Due.is("copy of an empty row to itself", x.copy(2, 0, 2, 0, 0), 1);
        Due.is("count(8)", x.count(8), 0);
        itemsAre(x, 1, 2, 0, 0, 0);
    }

    /** "INDEX: below 0, not so many": of s, of t, and with sums that would wrap around. */
    private static void copyNotSoMany() {
        PromisesKept x = twoRows();
        int[][] none = {{-1, 0, 1}, {0, -1, 1}, {0, 0, -1}, {0, 0, 4}, {3, 0, 3}, {5, 0, 1}, {6, 0, 0}, {0, 4, 0}, {0, 3, 1},
            {0, 1, 3}, {-1, 0, 0}, {0, -1, 0}, {-1, -1, 2}, {2, 1, -1}, {MOST, 0, 1}, {0, MOST, 1}, {1, 0, MOST},
            {0, 1, MOST}, {MOST, MOST, MOST}, {LEAST, 0, 1}, {0, LEAST, 1}, {0, 0, LEAST}, {LEAST, LEAST, LEAST},
            {LEAST, 0, LEAST}, {MOST, 0, LEAST}, {5, 3, LEAST}};
        for (int[] n : none) {
            finds(x, "lose 3", 1);
            finds(x, "copy 0 " + n[0] + " 1 " + n[1] + " " + n[2], 2);
        }
        itemsAre(x, 0, 2, 1, 2, 3, 4, 5);
        itemsAre(x, 1, 2, 0, 0, 0);
        finds(x, "copy 1 0 1 1 3", 2);
    }

    /** "(perhaps s, as they were)": forth, back, onto the same place. */
    private static void copyOntoItselfAsTheyWere() {
        for (int form = 0; form < 3; form++) {
            PromisesKept x = withRow(form, 1, 2, 3, 4, 5);
            Due.is("forth by one", x.copy(0, 0, 0, 1, 4), 1);
            itemsAre(x, 0, form, 1, 1, 2, 3, 4);
            Due.is("back by one", x.copy(0, 1, 0, 0, 4), 1);
            itemsAre(x, 0, form, 1, 2, 3, 4, 4);
            Due.is("forth by two", x.copy(0, 0, 0, 2, 3), 1);
            itemsAre(x, 0, form, 1, 2, 1, 2, 3);
            Due.is("onto the same place", x.copy(0, 0, 0, 0, 5), 1);
            itemsAre(x, 0, form, 1, 2, 1, 2, 3);
        }
    }

    /** 48 items at once. */
    private static void copyOfTheWholeRow() {
        PromisesKept x = new PromisesKept();
        x.sheet(3, 1, 48);
        x.sheet(0, 1, 48);
        for (int i = 0; i < 48; i++) {
            x.put(3, 1, i, 1000 + i);
        }
        Due.is("copy of 48", x.copy(3, 0, 0, 0, 48), 1);
        for (int i = 0; i < 48; i++) {
            Due.is("item " + i, x.get(0, 1, i), 1000 + i);
        }
        finds(x, "copy 3 0 0 0 49", 2);
        finds(x, "copy 3 1 0 0 48", 2);
        finds(x, "copy 3 0 0 1 48", 2);
    }

    /** "4 STORE: unlike FORMS": of like ones the greatest and the least items come as they are. */
    private static void copyKeepsTheItemsOfEachForm() {
        int[][] ends = {{-128, 127}, {-32768, 32767}, {LEAST, MOST}};
        for (int form = 0; form < 3; form++) {
            PromisesKept x = withRow(form, ends[form]);
            x.sheet(1, form, 2);
            Due.is("copy of like forms", x.copy(0, 0, 1, 0, 2), 1);
            itemsAre(x, 1, form, ends[form]);
            for (int other = 0; other < 3; other++) {
                x.sheet(2, other, 2);
                if (other != form) {
                    finds(x, "copy 0 0 2 0 2", 4);
                    finds(x, "copy 2 0 0 0 0", 4);
                    itemsAre(x, 2, other, 0, 0);
                }
            }
        }
    }

    /** "as many as there are items, six at most: how many". */
    private static void writeSixAtMost() {
        for (int n = 0; n <= 8; n++) {
            PromisesKept x = new PromisesKept();
            for (int person = 0; person < 6; person++) {
                x.set(3, person, 90 + person);
            }
            x.sheet(1, 2, n);
            for (int i = 0; i < n; i++) {
                x.put(1, 2, i, 7);
            }
            Due.is("write to " + n, x.write(0, 1), Math.min(n, 6));
            for (int i = 0; i < n; i++) {
                Due.is("written, item " + i, x.get(1, 2, i), i < 6 ? 90 + i : 7);
            }
            Due.is("count(8)", x.count(8), 0);
        }
        PromisesKept full = new PromisesKept();
        full.sheet(0, 0, 48);
        Due.is("write to 48", full.write(99, 0), 6);
        Due.is("item 5", full.get(0, 0, 5), 50);
        Due.is("item 6", full.get(0, 0, 6), 0);
    }

    /** TRUST above 127 in bytes: the lowest bits that they have; shorts and ints hold it. */
    private static void writeTheLowestBits() {
        int[][] due = {{3, 126, 126, 126}, {4, 135, -121, 135}, {9, 180, -76, 180}};
        for (int[] d : due) {
            PromisesKept x = Due.with(TEN_OF_ONE);
            x.set(0, 0, 9);
            x.set(3, 0, 99);
            for (int form = 0; form < 3; form++) {
                x.sheet(form, form, 1);
                Due.is("write", x.write(d[0], form), 1);
                Due.is("trust of day " + d[0] + " in form " + form, x.get(form, form, 0), form == 0 ? d[2] : d[1]);
            }
        }
        PromisesKept below = Due.with(TEN_OF_ONE);
        Calls.all(below, "set 0 0 9", "set 2 0 0", "set 3 0 0", "sheet 0 0 1", "write 10 0");
        Due.is("-90 in a byte", below.get(0, 0, 0), -90);
    }

    /** "behind a DAY": 0 and 99 are, -1 and 100 are not. */
    private static void writeOnTheFirstAndTheLastDay() {
        PromisesKept x = Due.with("0198999");
        x.sheet(0, 2, 1);
        Due.is("write(0, 0)", x.write(0, 0), 1);
        Due.is("trust behind day 0", x.get(0, 2, 0), 50);
        Due.is("write(99, 0)", x.write(99, 0), 1);
        Due.is("trust behind day 99", x.get(0, 2, 0), 59);
        Due.is("write(98, 0)", x.write(98, 0), 1);
        Due.is("trust behind day 98", x.get(0, 2, 0), 50);
        Due.is("write(-1, 0)", x.write(-1, 0), Due.BAD);
        Due.is("write(100, 0)", x.write(100, 0), Due.BAD);
        Due.is("write(0, -1)", x.write(0, -1), Due.BAD);
        Due.is("write(0, 4)", x.write(0, 4), Due.BAD);
        finds(x, "write 0 1", 1);
        Due.is("trust at first stays", x.set(3, 0, 1), 50);
    }

    /** count() 0 to 8 of a new object, and each at its greatest; 9 and -1 are BAD. */
    private static void countOfNoneAndAll() {
        PromisesKept x = new PromisesKept();
        for (int what = 0; what <= 8; what++) {
            Due.is("count(" + what + ") of a new one", x.count(what), 0);
        }
        Due.is("count(9)", x.count(9), Due.BAD);
        Due.is("count(-1)", x.count(-1), Due.BAD);
        Due.type(x, TEN_OF_ONE);
        x.set(0, 0, 9);
        for (int n = 0; n < 9; n++) {
            x.forgive(0, 0);
            x.seen(0, 0, 1);
        }
        int[] due = {10, 79, 10, 9, 1, 0, 8, 8, 0};
        for (int what = 0; what <= 8; what++) {
            Due.is("count(" + what + ")", x.count(what), due[what]);
        }
        x.set(2, 0, 0);
        Due.is("broken: all ten", x.count(4), 10);
        x.set(0, 0, 1);
        x.wipe();
        Due.type(x, "0100991;0100121;0100121;0100121;0100121;0100121;0100121;0100121;0100121;0100121");
        Due.is("lapsed: nine", x.count(5), 9);
        Due.is("made: one", x.count(2), 1);
    }

    private static BigInteger mixed(BigInteger h, long x) {
        return h.multiply(BigInteger.valueOf(31)).add(BigInteger.valueOf(x));
    }

    private static BigInteger mixedAll(BigInteger h, PromisesKept x, String... calls) {
        BigInteger to = h;
        for (String call : calls) {
            to = mixed(to, Calls.answer(x, call));
        }
        return to;
    }

    /** The document's row of answers, in numbers without bounds; a long keeps its lowest 64 bits. */
    private static long digestOf(PromisesKept x) {
        BigInteger h = BigInteger.valueOf(17);
        for (int what = 0; what <= 7; what++) {
            h = mixedAll(h, x, "count " + what);
        }
        h = mixedAll(h, x, "fault");
        int wants = x.count(0);
        for (int w = 0; w < wants; w++) {
            h = mixedAll(h, x, "want " + w + " 0", "want " + w + " 1", "want " + w + " 2", "want " + w + " 3",
                "want " + w + " 4", "made " + w + " 0", "made " + w + " 1", "made " + w + " 2", "depth " + w);
        }
        for (int day : new int[] {0, 10, 30}) {
            h = mixedAll(h, x, "held " + day, "waiting " + day, "price " + day, "cleared " + day, "room " + day + " 1 9 0",
                "room " + day + " 1 9 1");
        }
        for (int person = 0; person < 6; person++) {
            h = mixedAll(h, x, "trust " + person + " 40", "means " + person + " 40", "owed " + person + " 0 20");
        }
        h = mixedAll(h, x, "gain 0", "gain 1", "gain 2", "gain 3", "best", "hoarder", "rings", "freed 0", "freed 1", "fits 0",
            "fits 1", "unlike 0 1");
        return h.longValue();
    }

    /** "h is 17; h becomes 31 h and each of ..; as longs that wrap": none, a FAULT, one want, ten. */
    private static void digestAsLongsThatWrap() {
        String[] texts = {"", "0", "0100012", "0100509;1200508;2301507;3402506;4503205;5004304", TEN_OF_ONE, TEN_OF_ONE + ";"};
        for (String text : texts) {
            for (int slots = 1; slots <= 9; slots += 4) {
                PromisesKept x = Due.with(text);
                Calls.all(x, "set 0 0 " + slots, "set 2 0 3", "after 0 0 1", "after 1 0 1", "after 3 2 1", "forgive 4 2",
                    "seen 10 1 1", "seen 20 2 0");
                Due.is("digest() of " + text + " with " + slots, x.digest(), digestOf(x));
            }
        }
    }

    /** "of DAYS 0, 10, 30 ..; trust(it, 40), means(it, 40), owed(it, 0, 20)": on each something ends, and a day later. */
    private static void digestOnTheDaysTold() {
        String text = "3100101;3200112;1000203;2000214;4300305;5300316;3400407;4500418;0110999;5130391";
        for (int slots = 1; slots <= 9; slots += 2) {
            PromisesKept x = Due.with(text);
            Calls.all(x, "set 0 0 " + slots, "after 3 3 1", "after 4 5 1", "after 5 4 1", "after 9 8 1", "seen 11 8 1");
            Due.is("digest() of days with " + slots, x.digest(), digestOf(x));
        }
        PromisesKept one = Due.with("0100101;1200309;2301205");
        one.set(0, 0, 1);
        Due.is("unlike(0, 1) is told", one.unlike(0, 1), 0);
        Due.is("unlike(0, 2) is another", one.unlike(0, 2), 10);
        Due.is("digest() of laws unlike", one.digest(), digestOf(one));
    }

    /** "count() 0 to 7": neither a FINDING nor a SHEET is in it. */
    private static void digestDoesNotTellCount8() {
        PromisesKept x = Due.with("0100059");
        long first = x.digest();
        x.read(0);
        x.sheet(0, 0, 9);
        x.put(0, 0, 0, 9);
        x.get(0, 0, 9);
        Due.is("digest()", x.digest(), first);
        x.seen(0, 0, 1);
        Due.is("digest() tells a seen one", x.digest() == first ? 1 : 0, 0);
        x.forget();
        Due.is("digest() once it is forgotten", x.digest(), first);
    }
}
