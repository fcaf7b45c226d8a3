/** Terms 3 and the answers, sentence by sentence: TAPES, JUDGED, the host's refusals; both sides of each boundary. */
public final class Terms3Tests {
    private static final int MIN = Integer.MIN_VALUE, MAX = Integer.MAX_VALUE;
    private static final long NO = Long.MIN_VALUE;

    private Terms3Tests() {
    }

    public static void main(String[] args) {
        sixTapes();
        sizes();
        allZero();
        cutToBytes();
        cutToShorts();
        cutToInts();
        longs();
        booleans();
        places();
        judgedFirst();
        judgedNone();
        judgedToTheEnd();
        judgedShorts();
        shifted();
        shiftedOver();
        shiftedToTheEnds();
        castKinds();
        counts();
        Due.end();
    }

    private static BorderQuestions fresh(String sentence) {
        Due.about(sentence);
        return new BorderQuestions();
    }

    private static void sixTapes() {
        BorderQuestions x = fresh("TAPES 0 .. 5 hold nothing (at first), or a row");
        for (int t = 0; t < 6; t++) {
            Due.is("nothing at first", x.item(t, 0, 0), -11);
            Due.is("nothing to read", x.read(t, 0), NO);
            Due.is("a row", x.tape(t, t % 5, t + 1), 1);
            Due.is("an item", x.item(t, t, 1), 1);
            Due.is("is there", x.read(t, t), 1);
        }
        for (int t = 0; t < 6; t++) {
            Due.is("each its own", x.read(t, t), 1);
            Due.is("nothing again (sort -1: n does not matter)", x.tape(t, -1, t % 2 == 0 ? MIN : MAX), 1);
            Due.is("nothing to read", x.read(t, t), NO);
            Due.is("nothing there", x.item(t, t, 0), -11);
            Due.is("nothing once more", x.tape(t, -1, 61), 1);
        }
        Due.is("tape -1", x.tape(-1, 0, 0), -1);
        Due.is("tape 6", x.tape(6, 0, 0), -1);
    }

    private static void sizes() {
        BorderQuestions x = fresh("A TAPE becomes a row of n (0 .. 60) of a sort (0 .. 4)");
        for (int sort = 0; sort < 5; sort++) {
            int[] sizes = {0, 1, 59, 60};
            for (int n : sizes) {
                Due.is("sort " + sort + ", so many " + n, x.tape(3, sort, n), 1);
                Due.is("the last", x.read(3, n - 1), n == 0 ? NO : 0);
                Due.is("none behind it", x.read(3, n), NO);
                Due.is("the last", x.item(3, n - 1, 1), n == 0 ? -13 : 1);
                Due.is("none behind it", x.item(3, n, 1), -13);
            }
            Due.is("61", x.tape(3, sort, 61), -2);
            Due.is("-1", x.tape(3, sort, -1), -14);
            Due.is("stays", x.read(3, 59), 1);
        }
        Due.is("sort 5", x.tape(3, 5, 1), -2);
        Due.is("sort -2", x.tape(3, -2, 1), -2);
        Due.is("stays", x.read(3, 59), 1);
    }

    private static void allZero() {
        BorderQuestions x = fresh("all 0");
        x.tape(0, 3, 60);
        for (int i = 0; i < 60; i++) {
            x.item(0, i, -1 - i);
        }
        x.tape(0, 3, 30);
        for (int i = 0; i < 30; i++) {
            Due.is("a row anew, item " + i, x.read(0, i), 0);
        }
        x.tape(0, 3, 60);
        for (int i = 0; i < 60; i++) {
            Due.is("a longer one, item " + i, x.read(0, i), 0);
        }
    }

    private static void kept(BorderQuestions x, int sort, long v, long due) {
        Due.is("put " + v, x.item(0, 1, v), 1);
        Due.is("of sort " + sort + " of " + v, x.read(0, 1), due);
        Due.is("the one ahead", x.read(0, 0), 0);
        Due.is("the one behind", x.read(0, 2), 0);
    }

    private static void cutToBytes() {
        BorderQuestions x = fresh("Item i becomes v (its lowest bits, as many as an item has): 0 bytes");
        x.tape(0, 0, 3);
        long[][] due = {{0, 0}, {1, 1}, {-1, -1}, {127, 127}, {128, -128}, {129, -127}, {255, -1}, {256, 0}, {257, 1}, {-128, -128},
            {-129, 127}, {32767, -1}, {1L << 32, 0}, {Long.MAX_VALUE, -1}, {NO, 0}, {NO + 127, 127}};
        for (long[] one : due) {
            kept(x, 0, one[0], one[1]);
        }
    }

    private static void cutToShorts() {
        BorderQuestions x = fresh("Item i becomes v (its lowest bits, as many as an item has): 1 shorts");
        x.tape(0, 1, 3);
        long[][] due = {{0, 0}, {-1, -1}, {128, 128}, {32767, 32767}, {32768, -32768}, {32769, -32767}, {65535, -1}, {65536, 0},
            {65537, 1}, {-32768, -32768}, {-32769, 32767}, {1L << 32, 0}, {Long.MAX_VALUE, -1}, {NO, 0}};
        for (long[] one : due) {
            kept(x, 1, one[0], one[1]);
        }
    }

    private static void cutToInts() {
        BorderQuestions x = fresh("Item i becomes v (its lowest bits, as many as an item has): 2 ints");
        x.tape(0, 2, 3);
        long[][] due = {{0, 0}, {-1, -1}, {32768, 32768}, {MAX, MAX}, {1L << 31, MIN}, {(1L << 31) + 1, MIN + 1}, {(1L << 32) - 1, -1},
            {1L << 32, 0}, {(1L << 32) + 1, 1}, {MIN, MIN}, {MIN - 1L, MAX}, {Long.MAX_VALUE, -1}, {NO, 0}};
        for (long[] one : due) {
            kept(x, 2, one[0], one[1]);
        }
    }

    private static void longs() {
        BorderQuestions x = fresh("Item i becomes v (its lowest bits, as many as an item has): 3 longs");
        x.tape(0, 3, 3);
        long[] due = {0, -1, 1, 1L << 31, 1L << 32, -1L << 32, Long.MAX_VALUE, NO + 1, NO};
        for (long one : due) {
            kept(x, 3, one, one);
        }
    }

    private static void booleans() {
        BorderQuestions x = fresh("booleans: whether v is not 0; 4 booleans (items 0, 1)");
        x.tape(0, 4, 3);
        long[] due = {1, 2, -1, 256, 65536, 1L << 32, NO, Long.MAX_VALUE};
        for (long one : due) {
            kept(x, 4, one, 1);
            kept(x, 4, 0, 0);
        }
    }

    private static void places() {
        BorderQuestions x = fresh("NOTHING (-11): nothing is there; PLACE (-13): no such place");
        x.tape(2, 3, 4);
        for (int i = 0; i < 4; i++) {
            Due.is("place " + i, x.item(2, i, i + 7), 1);
        }
        int[] none = {-1, 4, 5, 60, MIN, MAX};
        for (int i : none) {
            Due.is("no place " + i, x.item(2, i, 1), -13);
            Due.is("no place to read " + i, x.read(2, i), NO);
            Due.is("nothing at " + i, x.item(1, i, 1), -11);
        }
        for (int i = 0; i < 4; i++) {
            Due.is("place " + i, x.read(2, i), i + 7);
        }
    }

    // ---- judged

    /** So many GUARDS, who KNOW 10, 11, .. */
    private static BorderQuestions guards(int n) {
        BorderQuestions x = new BorderQuestions();
        for (int p = 0; p < n; p++) {
            x.guard(p, 0, 10 + p);
        }
        return x;
    }

    private static void row(BorderQuestions x, int... items) {
        x.tape(0, 1, items.length);
        for (int i = 0; i < items.length; i++) {
            x.item(0, i, items[i]);
        }
    }

    private static void judgedFirst() {
        Due.about("JUDGED: the first that is otherwise (counted from 0 from that place on)");
        BorderQuestions x = guards(3);
        row(x, 10, 11, 12);
        Due.is("all so", x.judge(0, 0), -5);
        row(x, 9, 11, 12);
        Due.is("the first", x.judge(0, 0), 0);
        row(x, 10, 12, 12);
        Due.is("the second", x.judge(0, 0), 1);
        row(x, 10, 11, 0);
        Due.is("the third", x.judge(0, 0), 2);
        row(x, 10, 0, 0);
        Due.is("two: the first of them", x.judge(0, 0), 1);
        row(x, 0, 0, 10, 11, 12, 0);
        Due.is("from 2 on all so", x.judge(0, 2), -5);
        Due.is("from 1 on the first", x.judge(0, 1), 0);
        row(x, 0, 0, 10, 11, 13);
        Due.is("from 2 on the third", x.judge(0, 2), 2);
        x.know(2, 13);
        Due.is("by what it KNOWS now", x.judge(0, 2), -5);
        BorderQuestions y = guards(6);
        row(y, 10, 11, 12, 13, 14, 15);
        Due.is("all six", y.judge(0, 0), -5);
        row(y, 10, 11, 12, 13, 14, 16);
        Due.is("the sixth", y.judge(0, 0), 5);
    }

    private static void judgedNone() {
        BorderQuestions x = fresh("-5: none, or there are no GUARDS (wherever the place is, also if the TAPE holds nothing)");
        x.tape(0, 1, 2);
        x.tape(1, 1, 0);
        int[] places = {0, 1, 2, 3, -1, 60, MIN, MAX};
        for (int i : places) {
            Due.is("two shorts, place " + i, x.judge(0, i), -5);
            Due.is("no shorts, place " + i, x.judge(1, i), -5);
            Due.is("nothing, place " + i, x.judge(5, i), -5);
            Due.is("no tape, place " + i, x.judge(6, i), -1);
            Due.is("no tape, place " + i, x.judge(-1, i), -1);
        }
    }

    private static void judgedToTheEnd() {
        Due.about("100 and how many were looked at, if the row ends ahead of that (or the place is below 0, or the TAPE holds nothing)");
        BorderQuestions x = guards(3);
        row(x, 10, 11);
        Due.is("two looked at", x.judge(0, 0), 102);
        Due.is("one: otherwise", x.judge(0, 1), 0);
        row(x, 0, 10);
        Due.is("one looked at", x.judge(0, 1), 101);
        Due.is("none looked at", x.judge(0, 2), 100);
        Due.is("none looked at, far", x.judge(0, 3), 100);
        Due.is("as far as it goes", x.judge(0, MAX), 100);
        Due.is("as far as it goes less 1", x.judge(0, MAX - 1), 100);
        Due.is("below 0", x.judge(0, -1), 100);
        Due.is("so that the second would be at 0", x.judge(0, -2), 100);
        Due.is("far below 0", x.judge(0, MIN), 100);
        row(x, 10, 11, 12);
        Due.is("three", x.judge(0, 0), -5);
        row(x, 10, 12);
        Due.is("otherwise ahead of the end", x.judge(0, 0), 1);
        row(x);
        Due.is("no items", x.judge(0, 0), 100);
        Due.is("no items, below 0", x.judge(0, -1), 100);
        Due.is("nothing", x.judge(5, 0), 100);
        Due.is("nothing, below 0", x.judge(5, -1), 100);
        for (int sort = 0; sort < 5; sort++) {
            x.tape(5, sort, 60);
            x.item(5, 0, 10);
            x.tape(5, -1, 60);
            Due.is("nothing again", x.judge(5, 0), 100);
        }
        x.tape(1, 1, 60);
        for (int p = 0; p < 3; p++) {
            x.item(1, 57 + p, 10 + p);
        }
        Due.is("up to the 60th", x.judge(1, 57), -5);
        x.item(1, 58, 10);
        x.item(1, 59, 11);
        Due.is("beyond the 60th", x.judge(1, 58), 102);
        BorderQuestions y = guards(6);
        row(y, 10, 11, 12, 13, 14);
        Due.is("five looked at", y.judge(0, 0), 105);
    }

    private static void judgedShorts() {
        Due.about("told by a row of shorts; CAST (-12): another sort");
        BorderQuestions x = guards(1);
        x.know(0, 4095);
        for (int sort = 0; sort < 5; sort++) {
            x.tape(0, sort, 1);
            x.item(0, 0, 4095);
            int[] places = {0, 1, -1};
            for (int i : places) {
                Due.is("sort " + sort + " from " + i + " on", x.judge(0, i), sort != 1 ? -12 : i == 0 ? -5 : 100);
            }
            x.tape(0, sort, 0);
            Due.is("none of sort " + sort, x.judge(0, 0), sort == 1 ? 100 : -12);
        }
        row(x, 4095 | 1 << 16);
        Due.is("cut to 4095", x.judge(0, 0), -5);
        row(x, 4095 | 1 << 12);
        Due.is("one bit more", x.judge(0, 0), 0);
    }

    // ---- shifted

    private static void longsOf(BorderQuestions x, int tape, int from, int n) {
        x.tape(tape, 3, n);
        for (int i = 0; i < n; i++) {
            x.item(tape, i, from + i);
        }
    }

    private static void are(BorderQuestions x, int tape, long... due) {
        for (int i = 0; i < due.length; i++) {
            Due.is("tape " + tape + ", item " + i, x.read(tape, i), due[i]);
        }
        Due.is("none behind", x.read(tape, due.length), NO);
    }

    private static void shifted() {
        BorderQuestions x = fresh("n items of a TAPE from i on come to another one from j on: n");
        longsOf(x, 0, 1, 5);
        longsOf(x, 1, 11, 4);
        Due.is("none", x.shift(0, 0, 1, 0, 0), 0);
        are(x, 1, 11, 12, 13, 14);
        Due.is("one", x.shift(0, 2, 1, 1, 1), 1);
        are(x, 1, 11, 3, 13, 14);
        Due.is("two", x.shift(0, 3, 1, 2, 2), 2);
        are(x, 1, 11, 3, 4, 5);
        Due.is("all four", x.shift(0, 1, 1, 0, 4), 4);
        are(x, 1, 2, 3, 4, 5);
        are(x, 0, 1, 2, 3, 4, 5);
        for (int sort = 0; sort < 5; sort++) {
            x.tape(2, sort, 60);
            x.tape(3, sort, 60);
            x.item(2, 0, 1);
            x.item(2, 59, 1);
            Due.is("all sixty of sort " + sort, x.shift(2, 0, 3, 0, 60), 60);
            Due.is("the first", x.read(3, 0), 1);
            Due.is("the last", x.read(3, 59), 1);
            Due.is("the second", x.read(3, 1), 0);
            for (int other = 0; other < 5; other++) {
                x.tape(4, other, 60);
                Due.is("sort " + sort + " to sort " + other, x.shift(2, 0, 4, 0, 1), sort == other ? 1 : -12);
                Due.is("is come", x.read(4, 0), sort == other ? 1 : 0);
            }
        }
    }

    private static void shiftedOver() {
        BorderQuestions x = fresh("(or the same), as they all were before");
        longsOf(x, 0, 1, 5);
        Due.is("up by one", x.shift(0, 0, 0, 1, 4), 4);
        are(x, 0, 1, 1, 2, 3, 4);
        longsOf(x, 0, 1, 5);
        Due.is("down by one", x.shift(0, 1, 0, 0, 4), 4);
        are(x, 0, 2, 3, 4, 5, 5);
        longsOf(x, 0, 1, 5);
        Due.is("up by two", x.shift(0, 0, 0, 2, 3), 3);
        are(x, 0, 1, 2, 1, 2, 3);
        longsOf(x, 0, 1, 5);
        Due.is("down by two", x.shift(0, 2, 0, 0, 3), 3);
        are(x, 0, 3, 4, 5, 4, 5);
        Due.is("to where they are", x.shift(0, 0, 0, 0, 5), 5);
        are(x, 0, 3, 4, 5, 4, 5);
    }

    private static void shiftedToTheEnds() {
        BorderQuestions x = fresh("PLACE: n, i or j is below 0, or beyond either's end");
        longsOf(x, 0, 1, 5);
        longsOf(x, 1, 11, 3);
        int[][] fits = {{0, 0, 0}, {5, 3, 0}, {5, 0, 0}, {0, 3, 0}, {2, 0, 3}, {4, 2, 1}, {0, 0, 3}};
        for (int[] f : fits) {
            Due.is("from " + f[0] + " to " + f[1] + ", " + f[2], x.shift(0, f[0], 1, f[1], f[2]), f[2]);
        }
        longsOf(x, 1, 11, 3);
        int[][] none = {{0, 0, -1}, {-1, 0, 0}, {0, -1, 0}, {-1, 0, 1}, {0, -1, 1}, {6, 0, 0}, {0, 4, 0}, {3, 0, 3}, {5, 0, 1}, {0, 1, 3},
            {0, 3, 1}, {0, 0, 4}, {0, 0, MAX}, {MAX, 0, 0}, {0, MAX, 0}, {MAX, 0, MAX}, {1, 0, MAX}, {0, 1, MAX}, {MIN, 0, 0}, {0, MIN, 0},
            {0, 0, MIN}, {MIN, 0, MIN}, {-3, 0, 3}, {0, -3, 3}, {5, 3, -1}};
        for (int[] n : none) {
            Due.is("from " + n[0] + " to " + n[1] + ", " + n[2], x.shift(0, n[0], 1, n[1], n[2]), -13);
        }
        are(x, 1, 11, 12, 13);
        are(x, 0, 1, 2, 3, 4, 5);
    }

    // ---- kinds, counts

    private static void castKinds() {
        Due.about("CAST (-12): another KIND; A GUARD taken for one of KIND k (0 .. 6), or one under that: its KIND");
        int[] above = {-1, 0, 0, 0, 1, 2, 3};
        for (int kind = 0; kind < 7; kind++) {
            BorderQuestions x = new BorderQuestions();
            x.guard(kind, 0, 0);
            for (int k = 0; k < 7; k++) {
                boolean is = k == kind || k == above[kind] || above[kind] >= 0 && k == above[above[kind]];
                Due.is(kind + " for " + k, x.taken(0, k), is ? kind : -12);
            }
            Due.is("k 7", x.taken(0, 7), -2);
            Due.is("k -1", x.taken(0, -1), -2);
            Due.is("guard 1", x.taken(1, kind), -11);
            Due.is("guard -1", x.taken(-1, kind), -11);
        }
    }

    private static void counts() {
        BorderQuestions x = fresh("How many: 0 GUARDS, 1 QUESTIONS, 2 BORDERS, 3 HEARD, 4 of the PLAN, 5 of the BOOK, 6 bytes of THE TEXT, 7 bodies that ran");
        for (int i = 0; i < 11; i++) {
            x.guard(6, 0, 0);
            x.question(0, 0);
            Worlds.border(x, "rest 1");
            x.hear(0, 0, true);
            x.plan(0, 0);
            x.book(0, 0);
            x.act(0, i % 3, 0);
            int[] due = {i + 1, i + 1, i + 1, i + 1, i + 1, i + 1, Math.max(0, 6 * (i - 5)), i % 3 == 0 ? 2 : i % 3 == 1 ? 5 : 12};
            int[] most = {6, 6, 6, 5, 10, 8, 100, 20};
            for (int what = 0; what < 8; what++) {
                Due.is("what " + what + ", " + i, x.count(what), Math.min(most[what], due[what]));
            }
        }
        Due.is("what 8", x.count(8), -2);
        Due.is("what -1", x.count(-1), -2);
    }
}
