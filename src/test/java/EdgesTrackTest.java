/** Boundary cases of promises 21 to 24 (which, read, worth, pairs), sentence by sentence. */
public final class EdgesTrackTest {
    private static final int MIN = Integer.MIN_VALUE;
    private static final int MAX = Integer.MAX_VALUE;

    public static void main(String[] args) {
        whichRefused();
        whichBySteps();
        whichByAThird();
        readRefused();
        readPlaces();
        readTillTheEnd();
        worthRefused();
        worthOfALead();
        worthBySeeds();
        pairs();
        Due.end();
    }

    private static WindBay withSailor() {
        WindBay bay = new WindBay();
        bay.boat(0, 0, true, 1);
        bay.keep(0, 1, 0);
        return bay;
    }

    private static void whichRefused() {
        Due.sentence("21: -1 (SHELVES 0 .. 7)", () -> {
            WindBay bay = new WindBay();
            Due.all("which", bay::which, -1, -1, 8, MIN, MAX);
            Due.ints(bay, 7, 1, 2, 3, 4);
            Due.is("SHELF 7", bay.which(7), 2);
        });
        Due.sentence("21: -11", () -> Due.is("nothing is held", new WindBay().which(0), -11));
        Due.sentence("21: -12 (no ROW)", () -> Due.is("a sailor", withSailor().which(0), -12));
        Due.sentence("21: a ROW of any SORT", () -> {
            for (int sort = 0; sort < 3; sort++) {
                WindBay bay = new WindBay();
                bay.row(0, sort, 4);
                for (int i = 0; i < 4; i++) {
                    bay.put(0, i, i);
                }
                Due.is("SORT " + sort, bay.which(0), 2);
            }
        });
    }

    private static void which(int due, int... winds) {
        WindBay bay = new WindBay();
        Due.ints(bay, 0, winds);
        Due.is("which of " + winds.length + " from " + (winds.length > 0 ? winds[0] : 0), bay.which(0), due);
    }

    private static void whichBySteps() {
        Due.sentence("21: neither, if there are fewer than 3 such steps", () -> {
            which(0);
            which(0, 7);
            which(0, 7, 8);
            which(0, 7, 8, 9);
            which(0, 7, 8, 7);
            which(2, 7, 8, 9, 10);
            which(1, 7, 8, 7, 8);
        });
        Due.sentence("21: steps of 0 left out: in how many there are", () -> {
            which(0, 7, 7, 7, 7, 7);
            which(0, 7, 7, 8, 8, 8, 7, 7);
            which(2, 7, 8, 8, 9, 9, 10);
            which(2, 7, 7, 7, 8, 9, 10);
        });
        Due.sentence("21: steps of 0 left out: going up behind having gone down", () -> {
            which(1, 7, 8, 8, 7, 7, 7, 6);
            which(1, 7, 6, 5, 5, 5, 6);
            which(2, 1, 2, 2, 3, 3, 4, 4);
        });
        Due.sentence("21: the first step goes neither behind up nor behind down", () -> {
            which(2, 9, 8, 7, 6);
            which(2, 6, 7, 8, 9);
            which(2, 0, 0, 8, 9, 10);
        });
        Due.sentence("21: a ROW of 100", () -> {
            for (int last = 99; last <= 101; last++) {
                WindBay bay = new WindBay();
                bay.row(0, 2, 100);
                for (int i = 0; i < 100; i++) {
                    bay.put(0, i, i < 97 ? 5 : i);
                }
                Due.is("steps at 97, 98 and 99 alone", bay.which(0), 2);
                bay.put(0, 99, last == 99 ? 0 : last == 100 ? 98 : 99);
                Due.is("the last step", bay.which(0), last == 99 ? 1 : last == 100 ? 0 : 2);
            }
        });
        Due.sentence("21: steps as great as may be", () -> {
            which(1, MIN, MAX, MIN, MAX);
            which(2, MIN, -1, 0, MAX);
            which(1, MAX, MIN, MAX, MIN, 0);
            which(2, MAX, 0, -1, MIN);
            which(2, MIN, 1, 2, 3);
            which(2, MAX, -2, -3, -4);
        });
    }

    private static void whichByAThird() {
        Due.sentence("21: TO AND FRO, if that is at least a third of its steps that aren't 0", () -> {
            which(1, 1, 2, 3, 2);
            which(2, 1, 2, 3, 4, 3);
            which(1, 1, 2, 3, 4, 3, 4);
            which(1, 1, 2, 3, 4, 5, 4, 5);
            which(2, 1, 2, 3, 4, 5, 6, 5, 6);
            which(1, 1, 2, 3, 4, 5, 6, 7, 6, 7, 6);
            which(2, 1, 2, 3, 4, 5, 6, 7, 8, 7, 8, 7);
        });
        Due.sentence("21: .. down, too", () -> {
            which(1, 9, 8, 7, 8);
            which(2, 9, 8, 7, 6, 7);
            which(1, 9, 8, 7, 6, 5, 6, 5);
            which(2, 9, 8, 7, 6, 5, 4, 5, 4);
        });
        Due.sentence("21: .. of its steps that aren't 0", () -> {
            which(1, 1, 2, 2, 2, 3, 3, 3, 2, 2, 2);
            which(2, 1, 1, 1, 2, 3, 4, 4, 4, 3);
        });
        Due.sentence("21: else ON", () -> {
            which(2, 1, 2, 3, 4);
            which(2, 1, 2, 3, 4, 0);
            which(2, 5, 4, 3, 2, 9);
        });
    }

    private static void readRefused() {
        Due.sentence("22: -1: no such BOAT, no such SHELF", () -> {
            WindBay bay = withSailor();
            Due.ints(bay, 1, 6);
            Due.all("BOAT", boat -> bay.read(boat, 1), -1, -1, 1, 2, 3, 4, MIN, MAX);
            Due.all("SHELF", d -> bay.read(0, d), -1, -1, 8, MIN, MAX);
            Due.is("both", bay.read(0, 1), -4);
        });
        Due.sentence("22: -11", () -> Due.is("nothing is held", withSailor().read(0, 1), -11));
        Due.sentence("22: -12", () -> Due.is("a sailor", withSailor().read(0, 0), -12));
        Due.sentence("22: of several refusals the first one: -1 ahead of -11 and -12", () -> {
            WindBay bay = withSailor();
            Due.is("no BOAT, nothing", bay.read(1, 1), -1);
            Due.is("no BOAT, a sailor", bay.read(-1, 0), -1);
        });
    }

    /** A BOAT of 6 a SECOND at SECOND 2 (y 12), and a ROW of that SORT that tells these. */
    private static WindBay reading(int sort, int... told) {
        WindBay bay = new WindBay();
        bay.boat(0, 0, true, 0);
        bay.go(2);
        bay.row(0, sort, told.length);
        for (int i = 0; i < told.length; i++) {
            bay.put(0, i, told[i]);
        }
        return bay;
    }

    private static void read(int due, int sort, int... told) {
        Due.is("read of SORT " + sort + ", " + told.length, reading(sort, told).read(0, 0), due);
    }

    private static void readPlaces() {
        Due.sentence("22: behind 1, 2, .. SECONDS more of the RACE from now on", () -> {
            read(-4, 2, 18, 24, 30);
            read(0, 2, 12, 18, 24);
            read(0, 2, 19, 24, 30);
            read(0, 2, 17, 24, 30);
        });
        Due.sentence("22: the place of the first .. that isn't so", () -> {
            read(1, 2, 18, 25, 31);
            read(2, 2, 18, 24, 31);
            read(2, 2, 18, 24, 29);
            read(0, 2, 0, 0, 0);
        });
        Due.sentence("22: -4: all are so, and none at all", () -> {
            for (int sort = 0; sort < 3; sort++) {
                read(-4, sort, 18, 24, 30, 36);
                read(-4, sort);
            }
        });
        Due.sentence("22: a ROW of 100: the last one", () -> {
            int[] told = new int[100];
            for (int i = 0; i < 100; i++) {
                int second = 3 + i;
                int sailed = second <= 25 ? second : Math.max(25, second - 2);
                told[i] = Math.min(204, 6 * sailed);
            }
            WindBay bay = reading(1, told);
            Due.is("all so", bay.read(0, 0), -4);
            bay.put(0, 99, 203);
            Due.is("the last isn't", bay.read(0, 0), 99);
            bay.put(0, 98, 205);
            Due.is("the first of two", bay.read(0, 0), 98);
        });
        Due.sentence("22: (the least number of the SORT is not told and skipped)", () -> {
            read(-4, 0, -128, 24, -128);
            read(0, 0, -127, 24, 30);
            read(-4, 1, -32768, 24, 30);
            read(0, 1, -32767, 24, 30);
            read(0, 1, -128, 24, 30);
            read(-4, 2, MIN, MIN, 30);
            read(0, 2, MIN + 1, 24, 30);
            read(0, 2, -32768, 24, 30);
            read(2, 2, MIN, 24, -128);
        });
        Due.sentence("22: .. skipped, and the next one is told of its own SECOND", () -> {
            read(-4, 2, MIN, 24);
            read(1, 2, MIN, 18);
        });
        Due.sentence("22: y's of a BOAT: of the one that is asked for", () -> {
            WindBay bay = new WindBay();
            bay.boat(0, 0, true, 0);
            bay.boat(0, 50, true, 1);
            Due.ints(bay, 0, 6, 12, 18, 24, 30, 36);
            Due.is("BOAT 0", bay.read(0, 0), -4);
            Due.is("BOAT 1, in a turn at 6", bay.read(1, 0), 5);
        });
        Due.sentence("22: (in mind): nothing is changed", () -> {
            WindBay bay = reading(2, 18, 24);
            bay.read(0, 0);
            Due.is("SECOND", bay.count(1), 2);
            Due.boat("as it was", bay, 0, 16, 12, true, 0, 0);
        });
    }

    private static void readTillTheEnd() {
        Due.sentence("22: it stays where it is, once it ENDED: as all are IN", () -> {
            WindBay bay = new WindBay();
            bay.set(0, 42);
            bay.boat(0, -56, true, 0);
            bay.go(6);
            Due.ints(bay, 0, 42, 42, 42);
            Due.is("IN at 7", bay.read(0, 0), -4);
            bay.go(1);
            Due.is("ENDED", bay.go(1), -3);
            Due.is("from then on", bay.read(0, 0), -4);
            bay.put(0, 2, 48);
            Due.is("not on", bay.read(0, 0), 2);
        });
        Due.sentence("22: it stays where it is, once it ENDED: at SECOND 400", () -> {
            WindBay bay = EdgesBoatTest.inAt400();
            Due.law(bay, "0");
            Due.ints(bay, 0, 6, 12, 18, 18, 18);
            Due.is("398, 399, 400, 400, 400", bay.read(0, 0), -4);
            bay.put(0, 3, 24);
            Due.is("no 401", bay.read(0, 0), 3);
            bay.go(3);
            Due.is("ENDED", bay.go(1), -3);
            Due.ints(bay, 1, 18, 18, 24);
            Due.is("from then on", bay.read(0, 1), 2);
        });
        Due.sentence("22: who is IN stays, though the RACE goes on", () -> {
            WindBay bay = new WindBay();
            bay.set(0, 42);
            bay.boat(0, -56, true, 0);
            bay.boat(0, 0, true, 0);
            bay.go(7);
            Due.ints(bay, 0, 42, 42, 42, 42, 42, 42, 42, 42, 42);
            Due.is("BOAT 0", bay.read(0, 0), -4);
            Due.is("BOAT 1", bay.read(1, 0), -4);
        });
    }

    private static WindBay two(int x, int other) {
        WindBay bay = new WindBay();
        bay.boat(0, x, true, 0);
        bay.boat(0, other, true, 0);
        return bay;
    }

    private static void worthRefused() {
        Due.sentence("23: -1: a LEAD (0 .. 100)", () -> {
            WindBay bay = two(0, 0);
            Due.all("LEAD", lead -> bay.worth(lead, 1), -1, -1, 101, MIN, MAX);
            Due.is("LEAD 0", bay.worth(0, 1), 1);
            Due.is("LEAD 100", bay.worth(100, 1), 1);
        });
        Due.sentence("23: -1: n (1 .. 20) SEEDS", () -> {
            WindBay bay = two(0, 0);
            Due.all("n", n -> bay.worth(0, n), -1, 0, -1, 21, MIN, MAX);
            Due.is("n 1", bay.worth(0, 1), 1);
            Due.is("n 20", bay.worth(0, 20), 20);
        });
        Due.sentence("23: -3: fewer than two BOATS", () -> {
            WindBay bay = new WindBay();
            Due.is("none", bay.worth(0, 1), -3);
            bay.boat(0, 0, true, 0);
            Due.is("one", bay.worth(0, 1), -3);
            bay.boat(0, 0, true, 0);
            Due.is("two", bay.worth(0, 1), 1);
        });
        Due.sentence("23: of several refusals the first one: -1 ahead of -3", () -> {
            Due.is("LEAD", new WindBay().worth(101, 1), -1);
            Due.is("n", new WindBay().worth(0, 0), -1);
        });
    }

    private static void worthOfALead() {
        Due.sentence("23: how many: none, all", () -> {
            // from 60 out at 18, IN at 45; from 0 out at 25, IN at 52
            Due.is("BOAT 0 ahead", two(60, 0).worth(0, 20), 20);
            Due.is("BOAT 1 ahead", two(0, 60).worth(0, 20), 0);
        });
        Due.sentence("23: if it were so much more in y now: just enough", () -> {
            WindBay bay = two(0, 60);
            // 1 is IN at 45; 0 with 132 left is at DIST at 22, x 176, and IN at 44; with 133 left at 46
            Due.is("68 more", bay.worth(68, 1), 1);
            Due.is("67 more", bay.worth(67, 1), 0);
            Due.is("100 more", bay.worth(100, 1), 1);
            Due.is("1 more", bay.worth(1, 1), 0);
        });
        Due.sentence("23: (no more than DIST by that): at DIST it goes toward 0 alone", () -> {
            WindBay bay = new WindBay();
            bay.set(0, 60);
            bay.boat(0, 120, true, 0);
            bay.boat(0, 0, true, 0);
            bay.go(5);
            // 0 at x 160 and y 30 is IN at 25 by 30 and more; 1 is at DIST at 10, x 80, and IN at 20
            Due.is("just at DIST", bay.worth(30, 1), 0);
            Due.is("held to DIST", bay.worth(100, 1), 0);
        });
        Due.sentence("23: (no more than DIST by that): of like ones more y would tell", () -> {
            WindBay bay = new WindBay();
            bay.set(0, 42);
            bay.boat(0, -64, true, 0);
            bay.boat(0, 64, false, 0);
            Due.law(bay, "0-5");
            bay.go(5);
            Due.law(bay, "35");
            // 0 at DIST by 7 and more is IN at 8 with y 42; 1 by 13 a SECOND at DIST at 7, IN at 8 with y 51
            Due.is("x", bay.of(0, 1), -24);
            Due.is("y", bay.of(0, 2), 35);
            Due.is("y", bay.of(1, 2), 25);
            Due.is("42 is less than 51", bay.worth(100, 1), 0);
            Due.is("42 is less than 51", bay.worth(7, 1), 0);
            Due.law(bay, "20");
            // 1 by 10 a SECOND at DIST at 7 with y 45
            Due.is("42 is less than 45", bay.worth(100, 1), 0);
        });
        Due.sentence("23: who is beyond DIST stays there", () -> {
            WindBay bay = new WindBay();
            bay.set(0, 40);
            bay.boat(0, 0, true, 0);
            bay.boat(0, 0, true, 0);
            bay.go(7);
            Due.is("y", bay.of(0, 2), 42);
            // both IN at 14, with y 42: the lesser number
            Due.is("not held to 40", bay.worth(0, 1), 1);
            Due.is("not held to 40", bay.worth(100, 1), 1);
        });
        Due.sentence("23: ahead in the RACE: once it ENDED", () -> {
            WindBay bay = two(0, 60);
            bay.go(100);
            Due.is("ENDED", bay.go(1), -3);
            Due.is("IN later", bay.worth(100, 20), 0);
            WindBay other = two(60, 0);
            other.go(100);
            Due.is("IN earlier", other.worth(0, 20), 20);
        });
        Due.sentence("23: ahead in the RACE: ENDED at 400, by y less half of x", () -> {
            WindBay bay = new WindBay();
            bay.set(1, 3);
            bay.set(2, 200);
            bay.set(3, 9);
            bay.boat(0, 100, true, 2);
            bay.boat(0, 0, true, 2);
            for (int i = 0; i < 4; i++) {
                bay.go(100);
            }
            Due.is("ENDED", bay.go(1), -3);
            Due.is("x of 0", bay.of(0, 1), 172);
            Due.is("x of 1", bay.of(1, 1), 72);
            Due.is("of like ones the lesser number", bay.worth(50, 1), 1);
            Due.is("one less", bay.worth(49, 1), 0);
        });
        Due.sentence("23: (in mind): nothing is changed", () -> {
            WindBay bay = two(0, 60);
            bay.set(4, 7);
            Due.law(bay, "s");
            bay.go(3);
            int y = bay.of(0, 2);
            bay.worth(50, 20);
            Due.is("SECOND", bay.count(1), 3);
            Due.is("y", bay.of(0, 2), y);
            Due.is("SEED", bay.wind(0), 7);
            Due.is("SEED", bay.set(4, 7), 7);
        });
    }

    private static void worthBySeeds() {
        Due.sentence("23: of SEEDS 0 .. n less 1: the first and the last one", () -> {
            for (int n = 1; n <= 20; n++) {
                // with that SEED alone a WIND by which BOAT 1, going LEFT, is quick
                WindBay bay = new WindBay();
                bay.boat(0, 0, true, 0);
                bay.boat(0, 0, false, 0);
                bay.set(0, 100);
                Due.law(bay, "(1/(1+(s-" + (n - 1) + ")*(s-" + (n - 1) + ")))*30");
                Due.is("n " + n, bay.worth(0, n), n - 1);
                if (n > 1) {
                    Due.is("n " + n + " less 1", bay.worth(0, n - 1), n - 1);
                }
            }
        });
        Due.sentence("23: whatever the SEED is now", () -> {
            WindBay bay = new WindBay();
            bay.boat(0, 0, true, 0);
            bay.boat(0, 0, false, 0);
            bay.set(0, 100);
            Due.law(bay, "s/3%2*30");
            Due.is("SEED 0: s 0, 1, 2, 6 and 7", bay.worth(0, 8), 5);
            bay.set(4, 999);
            Due.is("SEED 999", bay.worth(0, 8), 5);
            bay.set(4, 3);
            Due.is("SEED 3", bay.worth(0, 8), 5);
        });
        Due.sentence("23: so much more in y now: BAD AIR by that, too", () -> {
            WindBay bay = new WindBay();
            bay.set(0, 42);
            bay.boat(0, -55, true, 0);
            bay.boat(0, -56, true, 0);
            // level 1 would be IN at 7, and 0 at 8; 2 ahead, 0 slows 1
            Due.is("level", bay.worth(0, 1), 0);
            Due.is("2 ahead", bay.worth(2, 1), 1);
            Due.is("2 ahead, once more", bay.worth(2, 20), 20);
        });
        Due.sentence("23: the others of the RACE sail along", () -> {
            for (int others = 0; others < 2; others++) {
                WindBay bay = new WindBay();
                bay.set(0, 42);
                bay.set(3, 1);
                bay.boat(0, 56, true, 0);
                bay.boat(0, -56, false, 0);
                if (others == 1) {
                    bay.boat(0, 64, false, 0);
                }
                bay.turn(0);
                bay.turn(1);
                bay.go(1);
                Due.is("BAD AIR", bay.badAir(0), others);
                // both IN at 8, if nobody slows 0
                Due.is("with others: " + others, bay.worth(0, 1), 1 - others);
            }
        });
    }

    private static void pairs() {
        Due.sentence("24: -3: not four BOATS", () -> {
            WindBay bay = new WindBay();
            for (int i = 0; i < 4; i++) {
                Due.is("BOATS " + i, bay.pairs(), -3);
                bay.boat(0, 50 * i, true, 0);
            }
            Due.is("four", bay.pairs() > 0 ? 1 : 0, 1);
        });
        Due.sentence("24: the sum of PLACES (1 .. 4) of 0 and 1: 3 to 7", () -> {
            int[][] xs = {{-56, -48, 0, 50}, {-56, 0, -48, 50}, {-56, 50, -48, 0}, {0, 50, -56, -48}, {-48, 50, -56, 0},
                {0, -48, -56, 50}, {50, 0, -48, -56}, {-48, -56, 50, 0}};
            int[] due = {3, 4, 5, 7, 6, 5, 7, 3};
            for (int i = 0; i < xs.length; i++) {
                WindBay bay = new WindBay();
                bay.set(0, 42);
                for (int x : xs[i]) {
                    bay.boat(0, x, true, 0);
                }
                Due.is("pairs, case " + i, bay.pairs(), due[i]);
                Due.is("as ends", bay.ends(0) + bay.ends(1), due[i]);
            }
        });
        Due.sentence("24: at the end of the RACE (in mind), not now", () -> {
            WindBay bay = new WindBay();
            bay.set(0, 42);
            bay.boat(0, 0, true, 0);
            bay.boat(0, 10, true, 0);
            bay.boat(0, -56, true, 0);
            bay.boat(0, -48, true, 0);
            Due.is("ahead now", bay.place(1) + bay.place(2), 1);
            Due.is("behind at the end", bay.pairs(), 7);
            Due.is("SECOND", bay.count(1), 0);
            bay.go(100);
            Due.is("once it ENDED", bay.pairs(), 7);
        });
    }
}
