/** Promises 28 to 34: keep, row, put, element, copy, skill, toss. */
public final class ShelfTest {
    private static final int FAR = -1000000000;
    private static final int MIN = Integer.MIN_VALUE;
    private static final int MAX = Integer.MAX_VALUE;

    public static void main(String[] args) {
        keeps();
        rows();
        puts();
        elements();
        copies();
        copyRefusals();
        copiesWithinOne();
        skills();
        tosses();
        tossesOfFigure0();
        Due.end();
    }

    /** 0 to 3: BOATS of KINDS; SHELF 1: a sailor; 2: bytes; 3: shorts; 4: ints. */
    private static WindBay stocked() {
        WindBay bay = new WindBay();
        for (int i = 0; i < 4; i++) {
            bay.boat(i, 10 * i, true, 5);
        }
        bay.keep(1, 1, 0);
        for (int sort = 0; sort < 3; sort++) {
            bay.row(2 + sort, sort, 5);
        }
        return bay;
    }

    private static void keeps() {
        WindBay bay = stocked();
        int[][] wrong = {{-1, 1, 0}, {8, 1, 0}, {-1, 0, 0}, {8, 0, 0}, {MIN, 0, 0}, {MAX, 1, 0},
            {1, -1, 0}, {1, 2, 0}, {1, MAX, 0}, {1, 1, -1}, {1, 1, 4}, {1, 1, MAX}, {1, 1, MIN}};
        for (int[] args : wrong) {
            Due.is("keep", bay.keep(args[0], args[1], args[2]), -1);
        }
        Due.is("refused: it stays", bay.skill(1), 10);
        Due.is("another sailor", bay.keep(1, 1, 3), 0);
        Due.is("another sailor", bay.skill(1), 26);
        Due.is("nothing, whatever k", bay.keep(1, 0, MIN), 0);
        Due.is("nothing", bay.skill(1), FAR - 11);
        Due.is("nothing on nothing", bay.keep(1, 0, 99), 0);
        Due.is("in place of a ROW", bay.keep(2, 1, 2), 0);
        Due.is("in place of a ROW", bay.toss(2), 2);
        Due.is("no ROW now", bay.put(2, 0, 0), -12);
        Due.is("nothing in place of a ROW", bay.keep(3, 0, 0), 0);
        Due.is("nothing", bay.which(3), -11);
        WindBay empty = new WindBay();
        Due.is("no BOAT", empty.keep(0, 1, 0), -1);
        Due.is("nothing", empty.keep(7, 0, 0), 0);
    }

    private static void rows() {
        WindBay bay = stocked();
        int[][] calls = {{-1, 0, 1, -1}, {8, 0, 1, -1}, {0, -1, 1, -1}, {0, 3, 1, -1}, {0, 0, 101, -1},
            {0, 0, MAX, -1}, {0, 0, -1, -14}, {0, 2, MIN, -14}, {8, 0, -1, -1}, {0, 3, -1, -1}, {MIN, MAX, MIN, -1}};
        for (int[] call : calls) {
            Due.is("row", bay.row(call[0], call[1], call[2]), call[3]);
        }
        Due.is("refused: nothing is held", bay.which(0), -11);
        Due.is("100", bay.row(0, 2, 100), 0);
        Due.is("the last", bay.put(0, 99, 7), 0);
        Due.is("no place 100", bay.put(0, 100, 7), -13);
        bay.put(0, 0, 5);
        Due.is("anew", bay.row(0, 2, 100), 0);
        Due.is("0 at first", bay.element(0, 0), 0);
        Due.is("0 at first", bay.element(0, 99), 0);
        Due.is("refused", bay.row(0, 2, -1), -14);
        Due.is("it stays", bay.element(0, 99), 0);
        Due.is("of no size", bay.row(0, 1, 0), 0);
        Due.is("no place", bay.put(0, 0, 1), -13);
        Due.is("in place of a sailor", bay.row(1, 0, 1), 0);
        Due.is("no sailor now", bay.skill(1), FAR - 12);
    }

    private static void puts() {
        WindBay bay = stocked();
        Due.is("put(-1)", bay.put(-1, 0, 0), -1);
        Due.is("put(8)", bay.put(8, 0, 0), -1);
        Due.is("nothing", bay.put(0, 0, 0), -11);
        Due.is("a sailor", bay.put(1, 0, 0), -12);
        Due.is("place below", bay.put(2, -1, 0), -13);
        Due.is("place beyond", bay.put(2, 5, 0), -13);
        Due.is("place far beyond", bay.put(2, MAX, 0), -13);
        Due.is("place far below", bay.put(2, MIN, 0), -13);
        int[] values = {0, 1, -1, 127, 128, -128, -129, 255, 256, 32767, 32768, -32769, 65535, 65536, MIN, MAX};
        for (int v : values) {
            Due.is("byte", bay.put(2, 4, v), 0);
            Due.is("byte of " + v, bay.element(2, 4), (byte) v);
            Due.is("short", bay.put(3, 0, v), 0);
            Due.is("short of " + v, bay.element(3, 0), (short) v);
            Due.is("int", bay.put(4, 2, v), 0);
            Due.is("int of " + v, bay.element(4, 2), v);
        }
    }

    /** 1: IllegalArgumentException; 2: IllegalStateException; 0: none. */
    private static int thrown(WindBay bay, int d, int i) {
        try {
            bay.element(d, i);
        } catch (IllegalArgumentException e) {
            return e.getClass() == IllegalArgumentException.class ? 1 : 3;
        } catch (IllegalStateException e) {
            return e.getClass() == IllegalStateException.class ? 2 : 3;
        }
        return 0;
    }

    private static void elements() {
        WindBay bay = stocked();
        int[][] calls = {{-1, 0, 1}, {8, 0, 1}, {MIN, 0, 1}, {MAX, -1, 1}, {0, 0, 2}, {1, 0, 2}, {2, -1, 2},
            {2, 5, 2}, {2, MAX, 2}, {2, MIN, 2}, {2, 0, 0}, {2, 4, 0}, {3, 4, 0}, {4, 4, 0}};
        for (int[] call : calls) {
            Due.is("element(" + call[0] + ", " + call[1] + ")", thrown(bay, call[0], call[1]), call[2]);
        }
    }

    private static String told(WindBay bay, int d, int n) {
        StringBuilder all = new StringBuilder();
        for (int i = 0; i < n; i++) {
            all.append(bay.element(d, i)).append(' ');
        }
        return all.toString();
    }

    private static void same(String call, String got, String want) {
        Due.is(call + ": " + got + "for " + want, got.equals(want) ? 1 : 0, 1);
    }

    private static void copies() {
        WindBay bay = new WindBay();
        Due.ints(bay, 0, 1, 2, 3, 4, 5);
        Due.ints(bay, 1, 9, 9, 9);
        Due.is("copy", bay.copy(0, 1, 1, 0, 2), 2);
        same("copied", told(bay, 1, 3), "2 3 9 ");
        same("from", told(bay, 0, 5), "1 2 3 4 5 ");
        Due.is("to the last", bay.copy(0, 4, 1, 2, 1), 1);
        same("copied", told(bay, 1, 3), "2 3 5 ");
        Due.is("all", bay.copy(1, 0, 0, 2, 3), 3);
        same("copied", told(bay, 0, 5), "1 2 2 3 5 ");
        Due.is("none", bay.copy(0, 5, 1, 3, 0), 0);
        same("not copied", told(bay, 1, 3), "2 3 5 ");
    }

    private static void copyRefusals() {
        WindBay bay = stocked();
        bay.row(5, 2, 3);
        int[][] calls = {
            {-1, 0, 2, 0, 1, -1}, {2, 0, 8, 0, 1, -1}, {0, 0, 8, 0, 1, -1}, {MIN, 0, MAX, 0, -1, -1},
            {0, 0, 2, 0, 1, -11}, {2, 0, 0, 0, 1, -11}, {1, 0, 0, 0, 1, -11}, {0, 0, 1, 9, 1, -11},
            {1, 0, 2, 0, 1, -12}, {2, 0, 1, 0, 1, -12}, {1, 0, 1, 0, 0, -12}, {2, 0, 3, 0, 1, -12}, {3, 0, 4, 0, -1, -12},
            {4, -1, 5, 0, 1, -13}, {4, 0, 5, -1, 1, -13}, {4, 0, 5, 0, -1, -13}, {4, 0, 5, 0, 4, -13},
            {4, 3, 5, 0, 3, -13}, {4, 5, 5, 0, 1, -13}, {4, 6, 5, 0, 0, -13}, {4, 0, 5, 4, 0, -13},
            {4, MAX, 5, 0, 1, -13}, {4, 1, 5, 0, MAX, -13}, {4, 0, 5, MAX, MAX, -13}, {4, MIN, 5, 0, MIN, -13},
            {4, 0, 5, 1, 3, -13}, {4, 0, 5, 0, 3, 3}, {4, 2, 5, 0, 3, 3}, {4, 5, 5, 3, 0, 0}};
        for (int[] call : calls) {
            Due.is("copy(" + call[0] + ", " + call[1] + ", " + call[2] + ", " + call[3] + ", " + call[4] + ")",
                bay.copy(call[0], call[1], call[2], call[3], call[4]), call[5]);
        }
    }

    private static void copiesWithinOne() {
        WindBay bay = new WindBay();
        Due.ints(bay, 0, 1, 2, 3, 4, 5);
        Due.is("on itself, onward", bay.copy(0, 0, 0, 1, 4), 4);
        same("copied", told(bay, 0, 5), "1 1 2 3 4 ");
        Due.is("on itself, back", bay.copy(0, 2, 0, 0, 3), 3);
        same("copied", told(bay, 0, 5), "2 3 4 3 4 ");
    }

    private static int skillOf(int kind, int figure) {
        WindBay bay = new WindBay();
        bay.boat(kind, 0, true, figure);
        Due.is("keep", bay.keep(6, 1, 0), 0);
        return bay.skill(6);
    }

    private static void skills() {
        int[] of0 = {10, 10, 13, 26, 10, 15, 15, 5};
        int[] of9 = {10, 19, 13, 26, 1, 15, 24, 9};
        int[] of40 = {10, 50, 13, 26, -30, 15, 55, 25};
        for (int kind = 0; kind < 8; kind++) {
            Due.is("SKILL, FIGURE 0, KIND " + kind, skillOf(kind, 0), of0[kind]);
            Due.is("SKILL, FIGURE 9, KIND " + kind, skillOf(kind, 9), of9[kind]);
            Due.is("SKILL, FIGURE 40, KIND " + kind, skillOf(kind, 40), of40[kind]);
        }
        WindBay bay = stocked();
        Due.is("skill(-1)", bay.skill(-1), FAR - 1);
        Due.is("skill(8)", bay.skill(8), FAR - 1);
        Due.is("nothing", bay.skill(0), FAR - 11);
        Due.is("a ROW", bay.skill(2), FAR - 12);
    }

    private static void tosses() {
        int[][] due = {{0, 1, 2, 103}, {-15, 1, 224, 3}};
        for (int half = 0; half < 2; half++) {
            WindBay bay = new WindBay();
            for (int i = 0; i < 4; i++) {
                bay.boat(4 * half + i, 0, true, 9);
                bay.keep(i, 1, i);
            }
            for (int i = 0; i < 4; i++) {
                Due.is("toss of KIND " + (4 * half + i), bay.toss(i), due[half][i]);
                Due.is("again", bay.toss(i), due[half][i]);
            }
        }
        WindBay bay = stocked();
        Due.is("toss(-1)", bay.toss(-1), -1);
        Due.is("toss(8)", bay.toss(8), -1);
        Due.is("nothing", bay.toss(0), -11);
        Due.is("a ROW", bay.toss(2), -12);
        bay.keep(0, 1, 3);
        bay.keep(5, 1, 3);
        Due.is("of one BOAT on two SHELVES", bay.toss(0), 103);
        Due.is("of one BOAT on two SHELVES", bay.toss(5), 103);
    }

    /** Any with FIGURE 0 has no FAILURE, a LAST neither. */
    private static void tossesOfFigure0() {
        for (int kind = 0; kind < 8; kind++) {
            WindBay bay = new WindBay();
            bay.boat(kind, 0, true, 0);
            bay.keep(0, 1, 0);
            Due.is("toss, FIGURE 0, KIND " + kind, bay.toss(0), -15);
            WindBay one = new WindBay();
            one.boat(kind, 0, true, 1);
            one.keep(0, 1, 0);
            int due = kind == 6 ? 216 : kind == 3 ? 100 : kind == 4 ? -15 : 0;
            Due.is("toss, FIGURE 1, KIND " + kind, one.toss(0), due);
        }
    }
}
