/** Promises 21 to 24: which, read, worth, pairs. */
public final class TrackTest {
    public static void main(String[] args) {
        whichRefusals();
        whichOfWinds();
        readRefusals();
        reads();
        readsTillTheEnd();
        leastNumbers();
        worthRefusals();
        worthOfALead();
        worthBySeeds();
        worthNoMoreThanDist();
        pairsRefusals();
        pairsAtTheEnd();
        Due.end();
    }

    private static WindBay withShelves() {
        WindBay bay = new WindBay();
        bay.boat(0, 0, true, 0);
        bay.keep(1, 1, 0);
        return bay;
    }

    private static void whichRefusals() {
        WindBay bay = withShelves();
        Due.is("which(-1)", bay.which(-1), -1);
        Due.is("which(8)", bay.which(8), -1);
        Due.is("which(MAX)", bay.which(Integer.MAX_VALUE), -1);
        Due.is("nothing", bay.which(0), -11);
        Due.is("a sailor", bay.which(1), -12);
    }

    private static int which(int... winds) {
        WindBay bay = new WindBay();
        Due.ints(bay, 3, winds);
        return bay.which(3);
    }

    private static void whichOfWinds() {
        Due.is("none", which(), 0);
        Due.is("one", which(5), 0);
        Due.is("two steps", which(1, 5, 1), 0);
        Due.is("two steps and rest", which(1, 5, 5, 5, 1, 1), 0);
        Due.is("three steps on", which(1, 2, 3, 4), 2);
        Due.is("one of three", which(1, 2, 3, 2), 1);
        Due.is("one of four", which(1, 2, 3, 4, 2), 2);
        Due.is("two of four", which(1, 2, 3, 2, 4), 1);
        Due.is("two of six", which(1, 2, 3, 4, 3, 4, 5), 1);
        Due.is("two of seven", which(1, 2, 3, 4, 3, 4, 5, 6), 2);
        Due.is("down and down", which(9, 8, 7, 6), 2);
        Due.is("up behind down", which(9, 8, 7, 9), 1);
        Due.is("steps of 0 left out", which(1, 2, 2, 2, 3, 3, 2, 2, 2), 1);
        Due.is("steps of 0 amid a swing", which(1, 2, 3, 4, 5, 5, 4), 2);
        Due.is("all 0", which(0, 0, 0, 0, 0), 0);
        Due.is("great steps", which(Integer.MIN_VALUE, Integer.MAX_VALUE, Integer.MIN_VALUE, Integer.MAX_VALUE), 1);
        Due.is("great steps on", which(Integer.MIN_VALUE, 0, 1, Integer.MAX_VALUE), 2);
        WindBay bay = new WindBay();
        bay.row(0, 0, 5);
        bay.put(0, 1, 127);
        bay.put(0, 2, 128);
        bay.put(0, 3, 129);
        Due.is("bytes: 0, 127, -128, -127, 0", bay.which(0), 1);
        bay.row(0, 1, 4);
        bay.put(0, 1, 40);
        bay.put(0, 2, 41);
        bay.put(0, 3, 42);
        Due.is("shorts", bay.which(0), 2);
    }

    private static void readRefusals() {
        WindBay bay = withShelves();
        Due.is("SHELF below", bay.read(0, -1), -1);
        Due.is("SHELF beyond", bay.read(0, 8), -1);
        Due.is("BOAT below", bay.read(-1, 0), -1);
        Due.is("BOAT beyond", bay.read(1, 1), -1);
        Due.is("BOAT far beyond", bay.read(Integer.MAX_VALUE, 2), -1);
        Due.is("nothing", bay.read(0, 0), -11);
        Due.is("a sailor", bay.read(0, 1), -12);
        bay.row(2, 2, 0);
        Due.is("an empty ROW", bay.read(0, 2), -4);
    }

    private static void reads() {
        WindBay bay = new WindBay();
        bay.boat(0, 0, true, 0);
        bay.boat(0, 100, true, 2);
        bay.go(8);
        Due.ints(bay, 0, 54, 60, 66, 72);
        Due.is("so", bay.read(0, 0), -4);
        Due.is("1 turns at 10", bay.read(1, 0), 2);
        bay.put(0, 0, 48);
        Due.is("not the y now", bay.read(0, 0), 0);
        bay.put(0, 0, Integer.MIN_VALUE);
        Due.is("skipped", bay.read(0, 0), -4);
        bay.put(0, 1, Integer.MIN_VALUE + 1);
        Due.is("not skipped", bay.read(0, 0), 1);
        bay.put(0, 1, Integer.MIN_VALUE);
        bay.put(0, 3, 0);
        Due.is("the last", bay.read(0, 0), 3);
        Due.ints(bay, 0, 54, 60, 60, 60, 66);
        Due.is("by its turn", bay.read(1, 0), -4);
        Due.is("by no turn", bay.read(0, 0), 2);
        Due.is("in mind", bay.count(1), 8);
        Due.is("in mind", bay.of(0, 2), 48);
        WindBay pair = new WindBay();
        pair.set(3, 1);
        pair.boat(0, 0, true, 0);
        pair.boat(0, 10, false, 0);
        pair.turn(1);
        Due.ints(pair, 0, 0, 4, 8, 12);
        Due.is("BAD AIR in mind", pair.read(1, 0), -4);
    }

    private static void readsTillTheEnd() {
        WindBay bay = new WindBay();
        bay.set(0, 42);
        bay.boat(0, -56, true, 0);
        bay.row(0, 1, 100);
        for (int i = 0; i < 100; i++) {
            bay.put(0, i, Math.min(42, 6 * (i + 1)));
        }
        Due.is("it stays where it is", bay.read(0, 0), -4);
        bay.go(100);
        Due.is("it stays where it is", bay.read(0, 0), 0);
        bay.row(0, 0, 2);
        bay.put(0, 0, 42);
        bay.put(0, 1, 42);
        Due.is("it stays where it is", bay.read(0, 0), -4);
        WindBay last = new WindBay();
        last.set(1, 3);
        last.set(3, 9);
        last.boat(0, 0, true, 2);
        for (int i = 0; i < 4; i++) {
            last.go(i < 3 ? 100 : 99);
        }
        int y = last.of(0, 2);
        last.image();
        last.go(1);
        int then = last.of(0, 2);
        last.restore();
        Due.ints(last, 0, then, then, then);
        Due.is("y at 399", last.of(0, 2), y);
        Due.is("no SECOND 401", last.read(0, 0), -4);
    }

    private static void leastNumbers() {
        WindBay bay = new WindBay();
        bay.boat(0, 0, true, 0);
        bay.row(0, 0, 2);
        bay.put(0, 0, -128);
        bay.put(0, 1, 12);
        Due.is("bytes", bay.read(0, 0), -4);
        bay.put(0, 0, 128);
        Due.is("bytes, by lowest bits", bay.read(0, 0), -4);
        bay.put(0, 0, -127);
        Due.is("bytes", bay.read(0, 0), 0);
        bay.row(0, 1, 2);
        bay.put(0, 0, -32768);
        bay.put(0, 1, 12);
        Due.is("shorts", bay.read(0, 0), -4);
        bay.put(0, 0, -128);
        Due.is("shorts", bay.read(0, 0), 0);
        bay.row(0, 2, 2);
        bay.put(0, 0, Integer.MIN_VALUE);
        bay.put(0, 1, 12);
        Due.is("ints", bay.read(0, 0), -4);
        bay.put(0, 0, -32768);
        Due.is("ints", bay.read(0, 0), 0);
    }

    private static void worthRefusals() {
        WindBay bay = new WindBay();
        Due.is("no BOATS", bay.worth(0, 1), -3);
        bay.boat(0, 0, true, 0);
        Due.is("one BOAT", bay.worth(0, 1), -3);
        Due.is("LEAD below", bay.worth(-1, 1), -1);
        Due.is("LEAD beyond", bay.worth(101, 1), -1);
        Due.is("LEAD far beyond", bay.worth(Integer.MAX_VALUE, 1), -1);
        Due.is("n below", bay.worth(0, 0), -1);
        Due.is("n far below", bay.worth(0, Integer.MIN_VALUE), -1);
        Due.is("n beyond", bay.worth(0, 21), -1);
        bay.boat(0, 0, true, 0);
        Due.is("two BOATS", bay.worth(100, 20), 20);
    }

    private static void worthOfALead() {
        WindBay bay = new WindBay();
        bay.set(0, 200);
        bay.boat(0, 60, true, 0);
        bay.boat(0, 0, true, 0);
        // 0 is out at SECOND 18, at DIST at 36 with x 72, IN at 45; 1 is out at 25, IN at 52
        Due.is("ahead at the end", bay.worth(0, 3), 3);
        WindBay other = new WindBay();
        other.boat(0, 0, true, 0);
        other.boat(0, 60, true, 0);
        Due.is("behind at the end", other.worth(0, 3), 0);
        int least = -1;
        for (int lead = 100; lead >= 0; lead--) {
            least = other.worth(lead, 1) == 1 ? lead : least;
        }
        other.go(1);
        Due.is("the SEED is as it was", other.set(4, 3), 0);
        Due.is("the y is as it was", other.of(0, 2), 6);
        Due.is("some LEAD is enough", least > 0 && least <= 100 ? 1 : 0, 1);
    }

    private static void worthBySeeds() {
        String law = "(t+s*17)%40-20";
        WindBay bay = new WindBay();
        Due.law(bay, law);
        bay.set(4, 5);
        bay.boat(1, -20, true, 8);
        bay.boat(0, 20, false, 2);
        bay.boat(3, 0, true, 0);
        for (int second = 0; second < 3; second++) {
            boolean[] won = new boolean[20];
            int all = 0;
            for (int n = 1; n <= 20; n++) {
                bay.set(4, n - 1);
                all += bay.ends(0) < bay.ends(1) ? 1 : 0;
                bay.set(4, 5);
                Due.is("worth(0, " + n + ")", bay.worth(0, n), all);
            }
            Due.is("of both kinds", all > 0 && all < 20 ? 1 : 0, 1);
            Due.is("the WINDS are as they were", bay.wind(7), (7 + 85) % 40 - 20);
            bay.go(6);
        }
    }

    private static void worthNoMoreThanDist() {
        WindBay bay = new WindBay();
        bay.set(0, 60);
        bay.set(3, 9);
        bay.boat(0, 120, true, 0);
        bay.boat(0, 0, true, 0);
        bay.go(5);
        // 0: x 160, y 30; 1: x 40, y 30: IN at SECOND 20; 0 at DIST now: IN at 25
        Due.is("at DIST, but far off", bay.worth(30, 1), 0);
        Due.is("not beyond DIST", bay.worth(100, 1), 0);
        WindBay near = new WindBay();
        near.set(0, 60);
        near.boat(0, -40, true, 0);
        near.boat(0, 40, true, 0);
        near.go(5);
        // 0: x 0, y 30: IN at SECOND 6, if it is at DIST
        Due.is("at the BUOY", near.worth(30, 1), 1);
        WindBay both = new WindBay();
        both.set(0, 46);
        Due.law(both, "5");
        both.boat(0, -8, false, 0);
        both.boat(0, 16, false, 0);
        both.go(6);
        Due.boat("at y 42", both, 0, -56, 42, false, 0, 0);
        Due.boat("at y 42", both, 1, -32, 42, false, 0, 0);
        Due.is("behind", both.worth(0, 1), 0);
    }

    private static void pairsRefusals() {
        WindBay bay = new WindBay();
        for (int i = 0; i < 4; i++) {
            Due.is("BOATS: " + i, bay.pairs(), -3);
            bay.boat(0, 50 * i, true, 0);
        }
        Due.is("four, the last two ahead", bay.pairs(), bay.ends(0) + bay.ends(1));
    }

    private static void pairsAtTheEnd() {
        int[][] xs = {{-56, -56, 100, 0}, {0, 100, -56, -56}, {-56, 0, -48, 100}, {100, -56, 0, -48}};
        int[] due = {3, 7, 4, 5};
        for (int i = 0; i < xs.length; i++) {
            WindBay bay = new WindBay();
            bay.set(0, 42);
            for (int x : xs[i]) {
                bay.boat(0, x, true, 0);
            }
            Due.is("pairs, case " + i, bay.pairs(), due[i]);
            Due.is("in mind", bay.count(1), 0);
            bay.go(100);
            Due.is("pairs at the end, case " + i, bay.pairs(), due[i]);
        }
    }
}
