/** Boundary cases of promises 28 to 34 (keep, row, put, element, copy, skill, toss), sentence by sentence. */
public final class EdgesShelfTest {
    private static final int MIN = Integer.MIN_VALUE;
    private static final int MAX = Integer.MAX_VALUE;
    private static final int FAR = -1000000000;

    public static void main(String[] args) {
        keeps();
        keepsCopies();
        rows();
        puts();
        elements();
        copies();
        copyRefusals();
        copyPlaces();
        skills();
        tosses();
        Due.end();
    }

    /** SHELF 0 nothing, 1 a sailor, 2 bytes, 3 shorts, 4 ints of 5 elements each. */
    private static WindBay stocked() {
        WindBay bay = new WindBay();
        bay.boat(0, 0, true, 1);
        bay.boat(3, 0, true, 1);
        bay.keep(1, 1, 1);
        for (int sort = 0; sort < 3; sort++) {
            bay.row(2 + sort, sort, 5);
        }
        return bay;
    }

    private static WindBay kept(int kind, int figure) {
        WindBay bay = new WindBay();
        bay.boat(kind, 0, true, figure);
        Due.is("keep", bay.keep(0, 1, 0), 0);
        return bay;
    }

    private static void keeps() {
        Due.sentence("28: -1 (SHELVES 0 .. 7)", () -> {
            WindBay bay = stocked();
            Due.all("keep the sailor", d -> bay.keep(d, 1, 0), -1, -1, 8, MIN, MAX);
            Due.all("keep nothing", d -> bay.keep(d, 0, 0), -1, -1, 8, MIN, MAX);
            Due.all("keep the sailor", d -> bay.keep(d, 1, 0), 0, 0, 7);
            Due.is("SHELF 7", bay.skill(7), 10);
        });
        Due.sentence("28: -1 (what 0, 1)", () -> {
            WindBay bay = stocked();
            Due.all("what", what -> bay.keep(1, what, 0), -1, -1, 2, MIN, MAX);
            Due.is("as it was", bay.skill(1), 26);
        });
        Due.sentence("28: -1 (no such BOAT)", () -> {
            WindBay bay = stocked();
            Due.all("BOAT", k -> bay.keep(1, 1, k), -1, -1, 2, 3, 4, MIN, MAX);
            Due.is("A refused call changes nothing", bay.skill(1), 26);
            Due.is("no BOATS", new WindBay().keep(0, 1, 0), -1);
            WindBay four = new WindBay();
            for (int i = 0; i < 4; i++) {
                four.boat(0, 0, true, 1);
            }
            Due.is("BOAT 3", four.keep(0, 1, 3), 0);
            Due.is("no BOAT 4", four.keep(0, 1, 4), -1);
            Due.is("its number", four.toss(0), 3);
        });
        Due.sentence("28: what = 0 nothing (the others do not matter)", () -> {
            WindBay bay = stocked();
            int[] ks = {0, -1, 4, MIN, MAX};
            for (int k : ks) {
                bay.keep(1, 1, 0);
                Due.is("keep(1, 0, " + k + ")", bay.keep(1, 0, k), 0);
                Due.is("nothing is held", bay.skill(1), FAR - 11);
            }
            Due.is("without BOATS", new WindBay().keep(7, 0, 0), 0);
        });
        Due.sentence("28: in place of what was held", () -> {
            WindBay bay = stocked();
            Due.is("nothing, of nothing", bay.keep(0, 0, 0), 0);
            Due.is("nothing", bay.which(0), -11);
            Due.is("a sailor, of a ROW", bay.keep(2, 1, 0), 0);
            Due.is("a sailor", bay.which(2), -12);
            Due.is("nothing, of a ROW", bay.keep(3, 0, 0), 0);
            Due.is("nothing", bay.which(3), -11);
            Due.is("another sailor", bay.keep(1, 1, 0), 0);
            Due.is("another sailor", bay.skill(1), 10);
        });
    }

    private static void keepsCopies() {
        Due.sentence("28: the sailor of BOAT k stays, whatever becomes of the BOAT", () -> {
            WindBay bay = kept(1, 7);
            bay.go(100);
            bay.anew();
            Due.is("SKILL", bay.skill(0), 17);
            Due.is("toss", bay.toss(0), 0);
        });
        Due.sentence("28: one sailor on several SHELVES", () -> {
            WindBay bay = kept(1, 7);
            for (int d = 1; d < 8; d++) {
                bay.keep(d, 1, 0);
            }
            bay.keep(3, 0, 0);
            Due.is("nothing on that", bay.skill(3), FAR - 11);
            Due.all("on the others", bay::skill, 17, 0, 1, 2, 4, 5, 6, 7);
        });
    }

    private static void rows() {
        Due.sentence("29: -1 (SHELVES 0 .. 7, SORTS 0 .. 2)", () -> {
            WindBay bay = new WindBay();
            Due.all("SHELF", d -> bay.row(d, 0, 1), -1, -1, 8, MIN, MAX);
            Due.all("SORT", sort -> bay.row(0, sort, 1), -1, -1, 3, MIN, MAX);
            Due.is("refused", bay.which(0), -11);
            Due.all("SORT", sort -> bay.row(7, sort, 1), 0, 0, 1, 2);
        });
        Due.sentence("29: -1 (n above 100)", () -> {
            WindBay bay = new WindBay();
            Due.all("n", n -> bay.row(0, 2, n), -1, 101, 102, MAX);
            Due.is("100", bay.row(0, 2, 100), 0);
            Due.is("the last one", bay.put(0, 99, 1), 0);
            Due.is("no more", bay.put(0, 100, 1), -13);
        });
        Due.sentence("29: -14 a size below 0", () -> {
            WindBay bay = new WindBay();
            Due.all("n", n -> bay.row(0, 2, n), -14, -1, -2, -100, MIN);
            Due.is("0", bay.row(0, 2, 0), 0);
            Due.is("none", bay.put(0, 0, 1), -13);
            Due.is("1", bay.row(0, 2, 1), 0);
            Due.is("one", bay.put(0, 0, 1), 0);
            Due.is("one alone", bay.put(0, 1, 1), -13);
        });
        Due.sentence("29: of several refusals the first one: -1 ahead of -14", () -> {
            WindBay bay = new WindBay();
            Due.is("SHELF", bay.row(8, 0, -1), -1);
            Due.is("SORT", bay.row(0, 3, -1), -1);
            Due.is("SORT", bay.row(0, -1, MIN), -1);
        });
        Due.sentence("29: elements, 0 at first", () -> {
            for (int sort = 0; sort < 3; sort++) {
                WindBay bay = new WindBay();
                bay.row(0, sort, 100);
                for (int i = 0; i < 100; i++) {
                    Due.is("element " + i, bay.element(0, i), 0);
                    bay.put(0, i, 1 + i);
                }
                bay.row(0, sort, 50);
                bay.row(0, sort, 100);
                for (int i = 0; i < 100; i++) {
                    Due.is("element " + i + " anew", bay.element(0, i), 0);
                }
            }
        });
        Due.sentence("29: A refused call changes nothing", () -> {
            WindBay bay = stocked();
            bay.put(4, 4, 9);
            bay.row(4, 2, 101);
            bay.row(4, 2, -1);
            bay.row(4, 3, 1);
            Due.is("as it was", bay.element(4, 4), 9);
            bay.row(1, 0, 101);
            bay.row(1, 0, -1);
            Due.is("as it was", bay.skill(1), 26);
        });
        Due.sentence("29: in place of what was held", () -> {
            WindBay bay = stocked();
            Due.is("of a sailor", bay.row(1, 0, 1), 0);
            Due.is("a ROW", bay.skill(1), FAR - 12);
            Due.is("of ints bytes", bay.row(4, 0, 1), 0);
            bay.put(4, 0, 300);
            Due.is("bytes", bay.element(4, 0), 44);
            Due.is("of a lesser size", bay.put(4, 1, 0), -13);
        });
    }

    private static void puts() {
        Due.sentence("30: -1 (SHELVES 0 .. 7)", () -> {
            WindBay bay = stocked();
            Due.all("SHELF", d -> bay.put(d, 0, 1), -1, -1, 8, MIN, MAX);
        });
        Due.sentence("30: -11, -12", () -> {
            WindBay bay = stocked();
            Due.is("nothing", bay.put(0, 0, 1), -11);
            Due.is("a sailor", bay.put(1, 0, 1), -12);
        });
        Due.sentence("30: -13 a place that isn't there", () -> {
            WindBay bay = stocked();
            for (int d = 2; d <= 4; d++) {
                int shelf = d;
                Due.all("place", i -> bay.put(shelf, i, 1), -13, -1, 5, 6, 100, MIN, MAX);
                Due.all("place", i -> bay.put(shelf, i, 1), 0, 0, 4);
            }
        });
        Due.sentence("30: of several refusals the first one", () -> {
            WindBay bay = stocked();
            Due.is("no SHELF, no place", bay.put(8, -1, 1), -1);
            Due.is("nothing, no place", bay.put(0, -1, 1), -11);
            Due.is("a sailor, no place", bay.put(1, -1, 1), -12);
        });
        Due.sentence("30: what is put in keeps its lowest bits: bytes", () -> {
            kept(2, 127, 127, 128, -128, -128, -128, -129, 127, 255, -1, 256, 0, 257, 1, MIN, 0, MAX, -1, -1, -1);
        });
        Due.sentence("30: what is put in keeps its lowest bits: shorts", () -> {
            kept(3, 32767, 32767, 32768, -32768, -32768, -32768, -32769, 32767, 65535, -1, 65536, 0, 128, 128, MIN, 0, MAX, -1);
        });
        Due.sentence("30: what is put in keeps its lowest bits: ints keep all", () -> {
            kept(4, MIN, MIN, MAX, MAX, -1, -1, 65536, 65536, 32768, 32768, MIN + 1, MIN + 1, 0, 0);
        });
        Due.sentence("30: Element i alone becomes v", () -> {
            WindBay bay = stocked();
            bay.put(4, 2, 9);
            for (int i = 0; i < 5; i++) {
                Due.is("element " + i, bay.element(4, i), i == 2 ? 9 : 0);
            }
            Due.is("the other ROW", bay.element(3, 2), 0);
            bay.put(4, 5, 8);
            bay.put(4, -1, 8);
            Due.is("refused", bay.element(4, 4) + bay.element(4, 0), 0);
        });
    }

    /** Of SHELF d: what is put in, and what is kept of it. */
    private static void kept(int d, int... pairs) {
        WindBay bay = stocked();
        for (int i = 0; i + 1 < pairs.length; i += 2) {
            bay.put(d, 4, pairs[i]);
            Due.is("kept of " + pairs[i], bay.element(d, 4), pairs[i + 1]);
        }
    }

    /** 1: IllegalArgumentException, 2: IllegalStateException, 0: none, each no other class of it. */
    private static int thrown(WindBay bay, int d, int i) {
        try {
            bay.element(d, i);
            return 0;
        } catch (RuntimeException e) {
            return e.getClass() == IllegalArgumentException.class ? 1
                : e.getClass() == IllegalStateException.class ? 2 : 3;
        }
    }

    private static void elements() {
        Due.sentence("31: IllegalArgumentException: no such SHELF", () -> {
            WindBay bay = stocked();
            Due.all("element", d -> thrown(bay, d, 0), 1, -1, 8, MIN, MAX);
            Due.all("element, no place", d -> thrown(bay, d, -1), 1, -1, 8, MIN, MAX);
        });
        Due.sentence("31: IllegalStateException: no ROW", () -> {
            WindBay bay = stocked();
            Due.is("nothing", thrown(bay, 0, 0), 2);
            Due.is("a sailor", thrown(bay, 1, 0), 2);
            Due.is("nothing on SHELF 7", thrown(bay, 7, 0), 2);
        });
        Due.sentence("31: IllegalStateException: no such place", () -> {
            WindBay bay = stocked();
            for (int d = 2; d <= 4; d++) {
                int shelf = d;
                Due.all("element", i -> thrown(bay, shelf, i), 2, -1, 5, 100, MIN, MAX);
                Due.all("element", i -> thrown(bay, shelf, i), 0, 0, 4);
            }
            bay.row(0, 0, 0);
            Due.is("of none", thrown(bay, 0, 0), 2);
            bay.row(0, 0, 100);
            Due.is("the last of 100", thrown(bay, 0, 99), 0);
            Due.is("behind it", thrown(bay, 0, 100), 2);
        });
        Due.sentence("31: the least and the greatest", () -> {
            WindBay bay = stocked();
            bay.put(4, 0, MIN);
            bay.put(4, 4, MAX);
            Due.is("least", bay.element(4, 0), -2147483648L);
            Due.is("greatest", bay.element(4, 4), 2147483647L);
        });
    }

    private static void holds(WindBay bay, int d, int... due) {
        for (int i = 0; i < due.length; i++) {
            Due.is("element " + i + " of SHELF " + d, bay.element(d, i), due[i]);
        }
    }

    private static WindBay filled() {
        WindBay bay = new WindBay();
        Due.ints(bay, 0, 1, 2, 3, 4, 5);
        Due.ints(bay, 1, 6, 7, 8);
        return bay;
    }

    private static void copies() {
        Due.sentence("32: n elements .. from i on come to .. from j on: n", () -> {
            WindBay bay = filled();
            Due.is("copy", bay.copy(0, 1, 1, 1, 2), 2);
            holds(bay, 1, 6, 2, 3);
            holds(bay, 0, 1, 2, 3, 4, 5);
        });
        Due.sentence("32: all of the lesser one, to the first and the last places", () -> {
            WindBay bay = filled();
            Due.is("to the first", bay.copy(1, 0, 0, 0, 3), 3);
            holds(bay, 0, 6, 7, 8, 4, 5);
            Due.is("to the last", bay.copy(1, 0, 0, 2, 3), 3);
            holds(bay, 0, 6, 7, 6, 7, 8);
            Due.is("from the last", bay.copy(0, 2, 1, 0, 3), 3);
            holds(bay, 1, 6, 7, 8);
        });
        Due.sentence("32: n 0", () -> {
            WindBay bay = filled();
            Due.is("at the begin", bay.copy(0, 0, 1, 0, 0), 0);
            Due.is("at the ends", bay.copy(0, 5, 1, 3, 0), 0);
            holds(bay, 0, 1, 2, 3, 4, 5);
            holds(bay, 1, 6, 7, 8);
            bay.row(2, 2, 0);
            Due.is("of none", bay.copy(2, 0, 2, 0, 0), 0);
        });
        Due.sentence("32: one ROW on itself, onward and back", () -> {
            WindBay bay = filled();
            Due.is("onward", bay.copy(0, 0, 0, 1, 4), 4);
            holds(bay, 0, 1, 1, 2, 3, 4);
            Due.is("back", bay.copy(0, 1, 0, 0, 4), 4);
            holds(bay, 0, 1, 2, 3, 4, 4);
            Due.is("where it is", bay.copy(0, 0, 0, 0, 5), 5);
            holds(bay, 0, 1, 2, 3, 4, 4);
        });
        Due.sentence("32: 100 elements", () -> {
            WindBay bay = new WindBay();
            bay.row(0, 1, 100);
            bay.row(1, 1, 100);
            bay.put(0, 0, 5);
            bay.put(0, 99, -5);
            Due.is("copy", bay.copy(0, 0, 1, 0, 100), 100);
            Due.is("the first", bay.element(1, 0), 5);
            Due.is("the last", bay.element(1, 99), -5);
            Due.is("one more", bay.copy(0, 0, 1, 0, 101), -13);
        });
    }

    private static void copyRefusals() {
        Due.sentence("32: -1", () -> {
            WindBay bay = stocked();
            Due.all("from", d -> bay.copy(d, 0, 2, 0, 1), -1, -1, 8, MIN, MAX);
            Due.all("to", d -> bay.copy(2, 0, d, 0, 1), -1, -1, 8, MIN, MAX);
        });
        Due.sentence("32: -11 (either)", () -> {
            WindBay bay = stocked();
            Due.is("from nothing", bay.copy(0, 0, 2, 0, 1), -11);
            Due.is("to nothing", bay.copy(2, 0, 0, 0, 1), -11);
            Due.is("both", bay.copy(0, 0, 7, 0, 1), -11);
        });
        Due.sentence("32: -12 (no ROWS of one SORT)", () -> {
            WindBay bay = stocked();
            Due.is("from a sailor", bay.copy(1, 0, 2, 0, 1), -12);
            Due.is("to a sailor", bay.copy(2, 0, 1, 0, 1), -12);
            Due.is("a sailor on itself", bay.copy(1, 0, 1, 0, 1), -12);
            for (int d = 2; d <= 4; d++) {
                for (int e = 2; e <= 4; e++) {
                    Due.is("copy of " + d + " to " + e, bay.copy(d, 0, e, 0, 1), d == e ? 1 : -12);
                }
            }
        });
        Due.sentence("32: of several refusals the first one", () -> {
            WindBay bay = stocked();
            Due.is("no SHELF, nothing", bay.copy(0, 0, 8, 0, 1), -1);
            Due.is("no SHELF, a sailor", bay.copy(8, 0, 1, 0, 1), -1);
            Due.is("no SHELF, no place", bay.copy(2, -1, -1, 0, 1), -1);
            Due.is("nothing, a sailor", bay.copy(0, 0, 1, 0, 1), -11);
            Due.is("a sailor, nothing", bay.copy(1, 0, 0, 0, 1), -11);
            Due.is("nothing, no place", bay.copy(2, -1, 0, 0, 1), -11);
            Due.is("SORTS, no place", bay.copy(2, -1, 3, 0, 1), -12);
            Due.is("SORTS, n below 0", bay.copy(2, 0, 3, 0, -1), -12);
            Due.is("a sailor, n below 0", bay.copy(1, 0, 2, 0, -1), -12);
        });
        Due.sentence("32: A refused call changes nothing", () -> {
            WindBay bay = filled();
            bay.copy(0, 0, 1, 0, 4);
            bay.copy(0, 3, 1, 0, 3);
            bay.copy(0, 0, 1, 2, 2);
            bay.copy(0, 0, 1, 0, -1);
            holds(bay, 0, 1, 2, 3, 4, 5);
            holds(bay, 1, 6, 7, 8);
        });
    }

    private static void copyPlaces() {
        Due.sentence("32: -13: of the ROW from which they come", () -> {
            WindBay bay = filled();
            Due.all("i", i -> bay.copy(0, i, 1, 0, 1), -13, -1, 5, 6, MIN, MAX);
            Due.is("4", bay.copy(0, 4, 1, 0, 1), 1);
            Due.is("3, two", bay.copy(0, 3, 1, 0, 2), 2);
            Due.is("4, two", bay.copy(0, 4, 1, 0, 2), -13);
            Due.is("6, none", bay.copy(0, 6, 1, 0, 0), -13);
            Due.is("-1, none", bay.copy(0, -1, 1, 0, 0), -13);
        });
        Due.sentence("32: -13: of the ROW to which they come", () -> {
            WindBay bay = filled();
            Due.all("j", j -> bay.copy(0, 0, 1, j, 1), -13, -1, 3, 4, MIN, MAX);
            Due.is("2", bay.copy(0, 0, 1, 2, 1), 1);
            Due.is("1, two", bay.copy(0, 0, 1, 1, 2), 2);
            Due.is("2, two", bay.copy(0, 0, 1, 2, 2), -13);
            Due.is("four", bay.copy(0, 0, 1, 0, 4), -13);
            Due.is("4, none", bay.copy(0, 0, 1, 4, 0), -13);
            Due.is("-1, none", bay.copy(0, 0, 1, -1, 0), -13);
        });
        Due.sentence("32: -13 (n below 0, too)", () -> {
            WindBay bay = filled();
            Due.all("n", n -> bay.copy(0, 0, 1, 0, n), -13, -1, -2, MIN, MIN + 1);
            Due.all("n", n -> bay.copy(0, 5, 1, 3, n), -13, -1, -3, MIN);
            Due.all("n", n -> bay.copy(0, 0, 0, 0, n), -13, -1, 6, MAX);
        });
        Due.sentence("32: -13: sums that wrap around", () -> {
            WindBay bay = filled();
            Due.is("i and n", bay.copy(0, 1, 1, 0, MAX), -13);
            Due.is("i and n", bay.copy(0, MAX, 1, 0, 1), -13);
            Due.is("i and n", bay.copy(0, MAX, 1, 0, MAX), -13);
            Due.is("j and n", bay.copy(0, 0, 1, MAX, MAX), -13);
            Due.is("j and n", bay.copy(0, 0, 1, MAX, 1), -13);
            Due.is("all", bay.copy(0, MIN, 1, MIN, MIN), -13);
        });
    }

    private static void skill(int kind, int figure, int due) {
        Due.is("SKILL of KIND " + kind + ", FIGURE " + figure, kept(kind, figure).skill(0), due);
    }

    private static void skills() {
        Due.sentence("33: -1000000001 (SHELVES 0 .. 7)", () -> {
            WindBay bay = stocked();
            Due.all("skill", bay::skill, FAR - 1, -1, 8, MIN, MAX);
            Due.is("SHELF 7", bay.skill(7), FAR - 11);
        });
        Due.sentence("33: -1000000011", () -> Due.is("nothing", stocked().skill(0), FAR - 11));
        Due.sentence("33: -1000000012 (a ROW)", () -> Due.all("a ROW", stocked()::skill, FAR - 12, 2, 3, 4));
        Due.sentence("33: TURN 10; HEADED a TURN's and FIGURE; of 0 and 40", () -> {
            skill(0, 0, 10);
            skill(0, 40, 10);
            skill(1, 0, 10);
            skill(1, 1, 11);
            skill(1, 40, 50);
        });
        Due.sentence("33: FORCED a TURN's and 3; COVERING twice a FORCED's; of 0 and 40", () -> {
            skill(2, 0, 13);
            skill(2, 40, 13);
            skill(3, 0, 26);
            skill(3, 40, 26);
        });
        Due.sentence("33: FEIGNED a TURN's less FIGURE: 0 and below 0, no refusals", () -> {
            skill(4, 0, 10);
            skill(4, 9, 1);
            skill(4, 10, 0);
            skill(4, 11, -1);
            skill(4, 21, -11);
            skill(4, 22, -12);
            skill(4, 40, -30);
        });
        Due.sentence("33: SIDE a TURN's and 5; LAST a SIDE's and FIGURE; of 0 and 40", () -> {
            skill(5, 0, 15);
            skill(5, 40, 15);
            skill(6, 0, 15);
            skill(6, 1, 16);
            skill(6, 40, 55);
        });
        Due.sentence("33: COSTLY half of a HEADED's, cut", () -> {
            skill(7, 0, 5);
            skill(7, 1, 5);
            skill(7, 2, 6);
            skill(7, 39, 24);
            skill(7, 40, 25);
        });
    }

    /** The answer of toss for the sailor of that number among four of the KIND. */
    private static void toss(int kind, int number, int figure, int due) {
        WindBay bay = new WindBay();
        for (int i = 0; i < 4; i++) {
            bay.boat(i == number ? kind : 0, 10 * i, true, i == number ? figure : 9);
        }
        bay.keep(5, 1, number);
        Due.is("toss of KIND " + kind + ", BOAT " + number + ", FIGURE " + figure, bay.toss(5), due);
    }

    private static void tosses() {
        Due.sentence("34: -1 (SHELVES 0 .. 7)", () -> {
            WindBay bay = stocked();
            Due.all("toss", bay::toss, -1, -1, 8, MIN, MAX);
            bay.keep(7, 1, 1);
            Due.is("SHELF 7", bay.toss(7), 101);
        });
        Due.sentence("34: -11", () -> Due.is("nothing", stocked().toss(0), -11));
        Due.sentence("34: -12 (a ROW)", () -> Due.all("a ROW", stocked()::toss, -12, 2, 3, 4));
        Due.sentence("34: its BOAT's number: 0 .. 3", () -> {
            for (int number = 0; number < 4; number++) {
                for (int kind : new int[] {0, 1, 2, 5, 7}) {
                    toss(kind, number, 1, number);
                    toss(kind, number, 40, number);
                }
            }
        });
        Due.sentence("34: of COVERING ones 100 more", () -> {
            for (int number = 0; number < 4; number++) {
                toss(3, number, 1, 100 + number);
                toss(3, number, 40, 100 + number);
            }
        });
        Due.sentence("34: of LAST ones 200 plus their SKILL, in place of all that", () -> {
            for (int number = 0; number < 4; number++) {
                toss(6, number, 1, 216);
                toss(6, number, 40, 255);
            }
        });
        Due.sentence("34: -15: FEIGNED ones .. have none", () -> {
            for (int figure : new int[] {0, 1, 9, 10, 11, 40}) {
                toss(4, 2, figure, -15);
            }
        });
        Due.sentence("34: -15: .. any with FIGURE 0 .. have none", () -> {
            for (int kind = 0; kind < 8; kind++) {
                toss(kind, 0, 0, -15);
                toss(kind, 3, 0, -15);
            }
        });
        Due.sentence("34: is thrown, and caught: again and again", () -> {
            WindBay bay = kept(3, 5);
            Due.is("toss", bay.toss(0), 100);
            Due.is("again", bay.toss(0), 100);
            Due.is("SKILL", bay.skill(0), 26);
        });
    }
}
