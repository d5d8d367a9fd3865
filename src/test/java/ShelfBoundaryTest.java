/** The boundary cases of promises 2 to 8: what SHELVES hold, and what they are asked. */
public final class ShelfBoundaryTest extends Checks {
    private static final int[] NO_SHELF = outside(0, 7);
    private static final int SORTS = 5;
    private static final int LONGS = 3;

    public static void main(String[] args) {
        rowNumbers();
        rowElements();
        setRefusals();
        setEdges();
        setLowestBits();
        copyRefusals();
        copyRefusalsInOrder();
        copyEdges();
        copyAsTheyWere();
        elementOfNothing();
        holdsEdges();
        showRefusals();
        showEdges();
        showStays();
        saysRefusals();
        saysByKinds();
        saysHowOften();
        end("shelves");
    }

    // ---- 2 row

    private static void rowNumbers() {
        the("2 row: SHELVES 0 to 7");
        Recorded x = scene();
        for (int s = 0; s <= 7; s++) {
            due("row(" + s + ", 2, 3)", x.row(s, 2, 3), 1);
            due("holds(" + s + ")", x.holds(s), 2);
        }
        the("2 row: BAD SHELF, the old ones stay");
        Recorded y = scene();
        refusedWith(y, "row(s, 2, 3)", NO_SHELF, s -> y.row(s, 2, 3), BAD);
        the("2 row: a SORT is 0 to 4");
        for (int sort = 0; sort < SORTS; sort++) {
            due("row(7, " + sort + ", 1)", x.row(7, sort, 1), 1);
            due("holds(7)", x.holds(7), sort);
        }
        the("2 row: BAD SORT, the old row stays");
        refusedWith(y, "row(0, sort, 3)", outside(0, 4), sort -> y.row(0, sort, 3), BAD);
        the("2 row: BAD: less than 0 elements, or more than 40, the old row stays");
        refusedWith(y, "row(0, 3, n)", outside(0, 40), n -> y.row(0, 3, n), BAD);
    }

    private static void rowElements() {
        the("2 row: 0 elements");
        Recorded x = scene();
        due("row(5, 3, 0)", x.row(5, 3, 0), 1);
        due("holds(5)", x.holds(5), 3);
        refused(x, "set(5, 0, 1)", () -> x.set(5, 0, 1), BAD);
        the("2 row: 40 elements");
        due("row(5, 3, 40)", x.row(5, 3, 40), 1);
        due("set(5, 39, 8)", x.set(5, 39, 8), 1);
        due("element(5, 39)", x.element(5, 39), 8);
        refused(x, "set(5, 40, 1)", () -> x.set(5, 40, 1), BAD);
        the("2 row: 0, or not so, at first, also where another row stood");
        for (int sort = 0; sort < SORTS; sort++) {
            Recorded y = new Recorded();
            y.row(0, LONGS, 40);
            for (int i = 0; i < 40; i++) {
                y.set(0, i, -1 - i);
            }
            y.row(0, sort, 40);
            for (int i = 0; i < 40; i++) {
                due("element(0, " + i + ") of sort " + sort, y.element(0, i), 0);
            }
        }
        the("2 row: a shorter new ROW has none of the old one's elements");
        x.row(5, 3, 2);
        due("element(5, 39)", x.element(5, 39), 0);
        refused(x, "set(5, 2, 1)", () -> x.set(5, 2, 1), BAD);
        the("2 row: in a cause's place");
        due("row(2, 1, 2)", x.row(2, 1, 2), 1);
        due("holds(2)", x.holds(2), 1);
        due("element(2, 0)", x.element(2, 0), 0);
        refused(x, "says(2, 0)", () -> x.says(2, 0), OTHER);
    }

    // ---- 3 set

    private static void setRefusals() {
        Recorded x = scene();
        the("3 set: BAD SHELF");
        refusedWith(x, "set(s, 0, 1)", NO_SHELF, s -> x.set(s, 0, 1), BAD);
        the("3 set: OTHER, a cause, whatever i is");
        refusedWith(x, "set(2, i, 1)", new int[] {0, -1, 40, MOST}, i -> x.set(2, i, 1), OTHER);
        the("3 set: NOTHING, whatever i is");
        refusedWith(x, "set(5, i, 1)", new int[] {0, -1, 40, LEAST}, i -> x.set(5, i, 1), NOTHING);
        the("3 set: BAD i, too small or too large");
        refusedWith(x, "set(0, i, 1)", outside(0, 2), i -> x.set(0, i, 1), BAD);
        the("3 set: BAD i, of a row of no elements");
        refusedWith(x, "set(4, i, 1)", new int[] {-1, 0, 1}, i -> x.set(4, i, 1), BAD);
    }

    private static void setEdges() {
        the("3 set: the first element and the last one, and no other");
        Recorded x = new Recorded();
        x.row(7, LONGS, 5);
        due("set(7, 0, MIN)", x.set(7, 0, Long.MIN_VALUE), 1);
        due("set(7, 4, MAX)", x.set(7, 4, Long.MAX_VALUE), 1);
        long[] wants = {Long.MIN_VALUE, 0, 0, 0, Long.MAX_VALUE, 0};
        for (int i = 0; i < wants.length; i++) {
            due("element(7, " + i + ")", x.element(7, i), wants[i]);
        }
    }

    private static void setLowestBits() {
        the("3 set: what is put in keeps its lowest bits: bytes wrap around");
        lowest(0, new long[][] {{127, 127}, {128, -128}, {255, -1}, {256, 0}, {-128, -128}, {-129, 127},
            {Long.MAX_VALUE, -1}, {Long.MIN_VALUE, 0}});
        the("3 set: what is put in keeps its lowest bits: shorts wrap around");
        lowest(1, new long[][] {{32767, 32767}, {32768, -32768}, {65535, -1}, {65536, 0}, {-32768, -32768},
            {-32769, 32767}, {Long.MAX_VALUE, -1}, {Long.MIN_VALUE, 0}});
        the("3 set: what is put in keeps its lowest bits: ints wrap around");
        lowest(2, new long[][] {{MOST, MOST}, {MOST + 1L, LEAST}, {(1L << 32) - 1, -1}, {1L << 32, 0},
            {LEAST, LEAST}, {LEAST - 1L, MOST}, {Long.MAX_VALUE, -1}, {Long.MIN_VALUE, 0}});
        the("3 set: longs keep all their bits");
        lowest(3, new long[][] {{Long.MAX_VALUE, Long.MAX_VALUE}, {Long.MIN_VALUE, Long.MIN_VALUE},
            {1L << 32, 1L << 32}, {-1, -1}});
        the("3 set: booleans keep whether it is not 0, and are told as 1, 0");
        lowest(4, new long[][] {{0, 0}, {1, 1}, {2, 1}, {-1, 1}, {256, 1}, {1L << 32, 1}, {Long.MIN_VALUE, 1}});
    }

    private static void lowest(int sort, long[][] told) {
        for (long[] one : told) {
            Recorded x = new Recorded();
            x.row(0, sort, 1);
            due("set(0, 0, " + one[0] + ")", x.set(0, 0, one[0]), 1);
            due("element(0, 0) of " + one[0], x.element(0, 0), one[1]);
        }
    }

    // ---- 4 copy

    /** SHELF 0: longs 10 to 14; 1: longs 20 to 22; 2: ints; 3: a cause; 4: no elements; 5 on: NOTHING. */
    private static Recorded rows() {
        Recorded x = withCauses();
        x.row(0, LONGS, 5);
        x.row(1, LONGS, 3);
        x.row(2, 2, 5);
        x.show(3, 0, 0);
        x.row(4, LONGS, 0);
        for (int i = 0; i < 5; i++) {
            x.set(0, i, 10 + i);
        }
        for (int i = 0; i < 3; i++) {
            x.set(1, i, 20 + i);
        }
        return x;
    }

    private static void copyRefusals() {
        Recorded x = rows();
        the("4 copy: BAD SHELVES, the first");
        refusedWith(x, "copy(p, 1, 0, 0, 1)", NO_SHELF, p -> x.copy(p, 1, 0, 0, 1), BAD);
        the("4 copy: BAD SHELVES, the second");
        refusedWith(x, "copy(0, q, 0, 0, 1)", NO_SHELF, q -> x.copy(0, q, 0, 0, 1), BAD);
        the("4 copy: OTHER, a cause");
        refused(x, "copy(3, 0, ..)", () -> x.copy(3, 0, 0, 0, 1), OTHER);
        refused(x, "copy(0, 3, ..)", () -> x.copy(0, 3, 0, 0, 1), OTHER);
        refused(x, "copy(3, 3, ..)", () -> x.copy(3, 3, 0, 0, 1), OTHER);
        the("4 copy: OTHER, ROWS of two SORTS");
        refused(x, "copy(0, 2, ..)", () -> x.copy(0, 2, 0, 0, 1), OTHER);
        refused(x, "copy(2, 0, ..)", () -> x.copy(2, 0, 0, 0, 1), OTHER);
        refused(x, "copy(4, 2, ..)", () -> x.copy(4, 2, 0, 0, 0), OTHER);
        the("4 copy: NOTHING, one of them or both");
        refused(x, "copy(5, 0, ..)", () -> x.copy(5, 0, 0, 0, 1), NOTHING);
        refused(x, "copy(0, 5, ..)", () -> x.copy(0, 5, 0, 0, 1), NOTHING);
        refused(x, "copy(5, 6, ..)", () -> x.copy(5, 6, 0, 0, 0), NOTHING);
        the("4 copy: BAD places: ahead of the first, behind the last, whatever n is");
        refusedWith(x, "copy(0, 1, i, 0, 1)", outside(0, 4), i -> x.copy(0, 1, i, 0, 1), BAD);
        refusedWith(x, "copy(0, 1, 0, j, 1)", outside(0, 2), j -> x.copy(0, 1, 0, j, 1), BAD);
        refusedWith(x, "copy(0, 1, i, 0, 0)", outside(0, 5), i -> x.copy(0, 1, i, 0, 0), BAD);
        refusedWith(x, "copy(0, 1, 0, j, 0)", outside(0, 3), j -> x.copy(0, 1, 0, j, 0), BAD);
        the("4 copy: BAD n: less than 0, more than there are behind i, or behind j");
        refusedWith(x, "copy(0, 1, 0, 0, n)", outside(0, 3), n -> x.copy(0, 1, 0, 0, n), BAD);
        refused(x, "copy(0, 0, 2, 0, 4)", () -> x.copy(0, 0, 2, 0, 4), BAD);
        refused(x, "copy(0, 0, 0, 2, 4)", () -> x.copy(0, 0, 0, 2, 4), BAD);
        refused(x, "copy(4, 0, 0, 0, 1)", () -> x.copy(4, 0, 0, 0, 1), BAD);
        refused(x, "copy(0, 4, 0, 0, 1)", () -> x.copy(0, 4, 0, 0, 1), BAD);
        the("4 copy: BAD, where i or j and n together would wrap around");
        refused(x, "copy(0, 1, MOST, 0, 2)", () -> x.copy(0, 1, MOST, 0, 2), BAD);
        refused(x, "copy(0, 1, 0, MOST, 2)", () -> x.copy(0, 1, 0, MOST, 2), BAD);
        refused(x, "copy(0, 1, 1, 1, MOST)", () -> x.copy(0, 1, 1, 1, MOST), BAD);
        refused(x, "copy(0, 1, LEAST, LEAST, LEAST)", () -> x.copy(0, 1, LEAST, LEAST, LEAST), BAD);
    }

    private static void copyRefusalsInOrder() {
        Recorded x = rows();
        the("4 copy: BAD SHELVES ahead of OTHER and NOTHING");
        refused(x, "copy(8, 3, ..)", () -> x.copy(8, 3, 0, 0, 1), BAD);
        refused(x, "copy(3, -1, ..)", () -> x.copy(3, -1, 0, 0, 1), BAD);
        refused(x, "copy(5, 8, ..)", () -> x.copy(5, 8, 0, 0, 1), BAD);
        the("4 copy: OTHER ahead of NOTHING");
        refused(x, "copy(5, 3, ..)", () -> x.copy(5, 3, 0, 0, 1), OTHER);
        refused(x, "copy(3, 5, ..)", () -> x.copy(3, 5, 0, 0, 1), OTHER);
        the("4 copy: two SORTS are OTHER only if both hold something");
        refused(x, "copy(2, 5, ..)", () -> x.copy(2, 5, 0, 0, 1), NOTHING);
        refused(x, "copy(5, 2, ..)", () -> x.copy(5, 2, 0, 0, 1), NOTHING);
        the("4 copy: OTHER ahead of BAD the others");
        refused(x, "copy(3, 0, -1, 9, 99)", () -> x.copy(3, 0, -1, 9, 99), OTHER);
        refused(x, "copy(0, 2, -1, 9, 99)", () -> x.copy(0, 2, -1, 9, 99), OTHER);
        the("4 copy: NOTHING ahead of BAD the others");
        refused(x, "copy(5, 0, -1, 9, 99)", () -> x.copy(5, 0, -1, 9, 99), NOTHING);
        refused(x, "copy(0, 5, -1, 9, 99)", () -> x.copy(0, 5, -1, 9, 99), NOTHING);
    }

    private static void copyEdges() {
        Recorded x = rows();
        the("4 copy: none, also behind the last element");
        only(x, "copy(0, 1, 5, 3, 0)", () -> x.copy(0, 1, 5, 3, 0), 0);
        only(x, "copy(0, 1, 0, 0, 0)", () -> x.copy(0, 1, 0, 0, 0), 0);
        only(x, "copy(4, 4, 0, 0, 0)", () -> x.copy(4, 4, 0, 0, 0), 0);
        the("4 copy: the last elements");
        due("copy(0, 1, 4, 2, 1)", x.copy(0, 1, 4, 2, 1), 1);
        elements(x, 1, 20, 21, 14);
        the("4 copy: as many as fit in");
        due("copy(0, 1, 2, 0, 3)", x.copy(0, 1, 2, 0, 3), 3);
        elements(x, 1, 12, 13, 14);
        elements(x, 0, 10, 11, 12, 13, 14);
        the("4 copy: all 40 of a row");
        Recorded y = new Recorded();
        y.row(0, 2, 40);
        y.row(7, 2, 40);
        for (int i = 0; i < 40; i++) {
            y.set(0, i, i * i);
        }
        due("copy(0, 7, 0, 0, 40)", y.copy(0, 7, 0, 0, 40), 40);
        for (int i = 0; i < 40; i++) {
            due("element(7, " + i + ")", y.element(7, i), i * i);
        }
    }

    private static void copyAsTheyWere() {
        the("4 copy: as they were, where places lie over one another");
        Recorded x = rows();
        due("copy(0, 0, 0, 1, 4)", x.copy(0, 0, 0, 1, 4), 4);
        elements(x, 0, 10, 10, 11, 12, 13);
        Recorded y = rows();
        due("copy(0, 0, 1, 0, 4)", y.copy(0, 0, 1, 0, 4), 4);
        elements(y, 0, 11, 12, 13, 14, 14);
        due("copy(0, 0, 0, 0, 5)", y.copy(0, 0, 0, 0, 5), 5);
        elements(y, 0, 11, 12, 13, 14, 14);
    }

    private static void elements(Recorded x, int s, long... wants) {
        for (int i = 0; i < wants.length; i++) {
            due("element(" + s + ", " + i + ")", x.element(s, i), wants[i]);
        }
    }

    // ---- 5 element, 6 holds

    private static void elementOfNothing() {
        Recorded x = scene();
        x.row(6, LONGS, 40);
        x.set(6, 0, 5);
        x.set(6, 39, 6);
        the("5 element: the first, the last");
        only(x, "element(6, 0)", () -> x.element(6, 0), 5);
        only(x, "element(6, 39)", () -> x.element(6, 39), 6);
        the("5 element: 0: none, and nothing is refused");
        for (int i : outside(0, 39)) {
            only(x, "element(6, " + i + ")", () -> x.element(6, i), 0);
        }
        only(x, "element(4, 0) of no elements", () -> x.element(4, 0), 0);
        the("5 element: 0: no ROW, and nothing is refused");
        only(x, "element(2, 0) of a cause", () -> x.element(2, 0), 0);
        only(x, "element(5, 0) of NOTHING", () -> x.element(5, 0), 0);
        the("5 element: 0: no SHELF, and nothing is refused");
        for (int s : NO_SHELF) {
            only(x, "element(" + s + ", 0)", () -> x.element(s, 0), 0);
        }
    }

    private static void holdsEdges() {
        Recorded x = scene();
        the("6 holds: NONE: no SHELF, and nothing is refused");
        for (int s : NO_SHELF) {
            only(x, "holds(" + s + ")", () -> x.holds(s), NONE);
        }
        the("6 holds: NONE: NOTHING, and nothing is refused");
        only(x, "holds(5)", () -> x.holds(5), NONE);
        the("6 holds: a row of no elements is a ROW");
        only(x, "holds(4)", () -> x.holds(4), 2);
        the("6 holds: 0 to 4 a ROW by its SORT");
        for (int sort = 0; sort < SORTS; sort++) {
            x.row(7, sort, 40);
            due("holds(7)", x.holds(7), sort);
        }
        the("6 holds: 10 and the KIND of a cause");
        Recorded y = withCauses();
        int[][] told = {{0, 0, 16}, {1, 0, 15}, {1, 1, 13}, {2, 0, 14}};
        for (int[] one : told) {
            y.show(0, one[0], one[1]);
            due("holds(0) of " + one[0] + ", " + one[1], y.holds(0), one[2]);
        }
    }

    // ---- 7 show

    private static void showRefusals() {
        Recorded x = scene();
        the("7 show: BAD SHELF, also where NOTHING is wanted");
        refusedWith(x, "show(s, 0, 0)", NO_SHELF, s -> x.show(s, 0, 0), BAD);
        refusedWith(x, "show(s, NONE, 0)", NO_SHELF, s -> x.show(s, NONE, 0), BAD);
        the("7 show: BAD i: less than NONE, as many as THE DEAD, what the SHELF held stays");
        refusedWith(x, "show(0, i, 0)", new int[] {-2, 4, LEAST, MOST}, i -> x.show(0, i, 0), BAD);
        the("7 show: BAD i: nobody is dead");
        Recorded y = new Recorded();
        refusedWith(y, "show(0, i, 0)", new int[] {0, 1, -2}, i -> y.show(0, i, 0), BAD);
        the("7 show: BAD link: less than 0, as many as the CAUSES");
        refusedWith(x, "show(0, 0, link)", outside(0, 0), link -> x.show(0, 0, link), BAD);
        refusedWith(x, "show(2, 2, link)", outside(0, 2), link -> x.show(2, 2, link), BAD);
    }

    private static void showEdges() {
        Recorded x = scene();
        the("7 show: SHELVES 0 and 7");
        due("show(0, 2, 0)", x.show(0, 2, 0), 1);
        due("holds(0)", x.holds(0), 13);
        due("show(7, 2, 0)", x.show(7, 2, 0), 1);
        due("holds(7)", x.holds(7), 13);
        the("7 show: 0 the last one, the greatest link the first one");
        int[] times = {3, 1, 0};
        for (int link = 0; link < times.length; link++) {
            x.show(0, 2, link);
            due("says(0, 0) of link " + link, x.says(0, 0), times[link]);
        }
        the("7 show: the last of THE DEAD");
        due("show(0, 3, 0)", x.show(0, 3, 0), 1);
        due("says(0, 0)", x.says(0, 0), 6);
        the("7 show: NOTHING in a row's, a cause's, and in NOTHING's place");
        for (int s : new int[] {1, 2, 5}) {
            due("show(" + s + ", NONE, 0)", x.show(s, NONE, 0), 1);
            due("holds(" + s + ")", x.holds(s), NONE);
            due("element(" + s + ", 0)", x.element(s, 0), 0);
        }
        the("7 show: NOTHING has no link that could be wrong");
        due("show(3, NONE, 99)", x.show(3, NONE, 99), 1);
        due("holds(3)", x.holds(3), NONE);
        the("7 show: a cause in a row's place");
        x.row(6, 0, 40);
        due("show(6, 0, 0)", x.show(6, 0, 0), 1);
        due("element(6, 0)", x.element(6, 0), 0);
        refused(x, "set(6, 0, 1)", () -> x.set(6, 0, 1), OTHER);
    }

    private static void showStays() {
        the("7 show: the CAUSE stays as it is, when its dead one is no more");
        Recorded x = scene();
        x.show(5, 2, 1);
        x.revive(2);
        x.bury(NONE);
        x.pass(99);
        due("says(5, 0)", x.says(5, 0), 1);
        due("says(5, 1)", x.says(5, 1), 2);
        due("says(5, 3)", x.says(5, 3), 1);
        x.back();
        due("says(5, 1) behind back()", x.says(5, 1), 2);
        the("7 show: SHELVES may hold the same CAUSE");
        Recorded y = scene();
        y.show(5, 0, 0);
        y.show(6, 0, 0);
        y.show(5, NONE, 0);
        due("holds(6)", y.holds(6), 16);
    }

    // ---- 8 says

    private static void saysRefusals() {
        Recorded x = scene();
        the("8 says: BAD SHELF");
        refusedWith(x, "says(s, 0)", NO_SHELF, s -> x.says(s, 0), BAD);
        the("8 says: BAD KIND, of a cause");
        refusedWith(x, "says(2, kind)", outside(0, 6), kind -> x.says(2, kind), BAD);
        the("8 says: BAD KIND ahead of OTHER");
        refusedWith(x, "says(0, kind)", outside(0, 6), kind -> x.says(0, kind), BAD);
        the("8 says: BAD KIND ahead of NOTHING");
        refusedWith(x, "says(5, kind)", outside(0, 6), kind -> x.says(5, kind), BAD);
        the("8 says: OTHER, a row");
        refusedWith(x, "says(0, kind)", new int[] {0, 1, 2, 3, 4, 5, 6}, kind -> x.says(0, kind), OTHER);
        refused(x, "says(4, 0) of a row of no elements", () -> x.says(4, 0), OTHER);
        the("8 says: NOTHING");
        refusedWith(x, "says(5, kind)", new int[] {0, 1, 2, 3, 4, 5, 6}, kind -> x.says(5, kind), NOTHING);
    }

    private static void saysByKinds() {
        the("8 says: OTHER, if it is of no such KIND nor of one under it");
        Recorded x = withCauses();
        x.show(0, 2, 1);
        x.show(1, 2, 0);
        x.show(2, 1, 0);
        x.show(3, 0, 0);
        int[][] wants = {
            {9, 1, OTHER, 1, OTHER, OTHER, OTHER},
            {13, 2, OTHER, OTHER, 1, OTHER, OTHER},
            {9, OTHER, 1, OTHER, OTHER, 9, OTHER},
            {0, OTHER, 0, OTHER, OTHER, OTHER, 2}};
        for (int s = 0; s < wants.length; s++) {
            for (int kind = 0; kind <= 6; kind++) {
                int shelf = s;
                int k = kind;
                String what = "says(" + s + ", " + kind + ")";
                if (wants[s][kind] == OTHER) {
                    refused(x, what, () -> x.says(shelf, k), OTHER);
                } else {
                    only(x, what, () -> x.says(shelf, k), wants[s][kind]);
                }
            }
        }
    }

    private static void saysHowOften() {
        the("8 says: how often the LETTER had FAILED by then, to the 5th time");
        Recorded x = simple(20, 5, 99, 0, 9);
        x.publish(0, 0, 0);
        for (int k = 0; k < 5; k++) {
            x.give(0);
            x.nack(0, 0);
            x.pass(8);
        }
        for (int link = 0; link < 5; link++) {
            x.show(0, 0, link);
            due("says(0, 1) of link " + link, x.says(0, 1), 5 - link);
        }
        the("8 says: how many CAUSES a LOSS is CAUSED BY, to 4");
        Recorded y = simple(20, 5, 99, 40, 9);
        y.publish(0, 0, 0);
        for (int k = 0; k < 4; k++) {
            y.give(0);
            y.nack(0, 0);
            y.pass(8);
        }
        y.pass(8);
        y.show(0, 0, 0);
        due("says(0, 2)", y.says(0, 2), 4);
        due("says(0, 5)", y.says(0, 5), 40);
        the("8 says: a LOSS that is CAUSED BY none");
        Recorded z = simple(20, 5, 99, 40, 9);
        z.publish(0, 0, 0);
        z.pass(40);
        z.show(0, 0, 0);
        due("says(0, 2)", z.says(0, 2), 0);
    }
}
