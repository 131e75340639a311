/** Promises 14, 15, 16: tacks, best, sides. */
public final class AloneTest {
    private static final String[] LAWS = {"0", "t/3-20", "t%40-20", "30", "0-33+t*s%50", "(t%7-3)*(t%11-5)*2"};

    public static void main(String[] args) {
        refusals();
        byHand();
        tacksAsARace();
        tacksWhateverTheRace();
        bestOfAll();
        leastBits();
        sidesByBest();
        Due.end();
    }

    private static void refusals() {
        WindBay bay = new WindBay();
        Due.is("x below", bay.tacks(-201, true, 0), -1);
        Due.is("x beyond", bay.tacks(201, true, 0), -1);
        Due.is("bits below", bay.tacks(0, true, -1), -1);
        Due.is("bits beyond", bay.tacks(0, true, 256), -1);
        Due.is("bits far beyond", bay.tacks(0, true, Integer.MAX_VALUE), -1);
        Due.is("bits far below", bay.tacks(0, true, Integer.MIN_VALUE), -1);
        Due.is("best, x below", bay.best(-201, true, 0), -1);
        Due.is("best, x beyond", bay.best(201, true, 1), -1);
        Due.is("best, what below", bay.best(0, true, -1), -1);
        Due.is("best, what beyond", bay.best(0, true, 2), -1);
        Due.is("best, x far below", bay.best(Integer.MIN_VALUE, true, 0), -1);
        Due.is("no BOAT came", bay.count(0), 0);
    }

    private static void byHand() {
        WindBay bay = new WindBay();
        Due.is("out at 25, at DIST at 36, x 128", bay.tacks(0, true, 0), 52);
        Due.is("LEFT likewise", bay.tacks(0, false, 0), 52);
        Due.is("turned at 10, at DIST at 36, x -112", bay.tacks(0, true, 1), 50);
        Due.is("turned at 10 and 30", bay.tacks(0, true, 5), 40);
        Due.is("bits of a later turn do not matter", bay.tacks(0, true, 5 + 128), 40);
        bay.set(0, 42);
        Due.is("at the BUOY as it is at DIST", bay.tacks(-56, true, 0), 7);
        Due.is("at DIST 7 and 25 back", bay.tacks(144, true, 0), 32);
        bay.set(3, 0);
        Due.law(bay, "((t+25)/50%2*2-1)*40");
        Due.is("headed all the way, never IN", bay.tacks(0, false, 0), 400);
        Due.is("turned at 10, at DIST at 13, x -56", bay.tacks(0, false, 1), 20);
        WindBay late = new WindBay();
        late.set(0, 400);
        late.set(1, 3);
        late.set(3, 9);
        Due.law(late, "9");
        Due.is("a turn at 80 counts", late.tacks(0, true, 127) == late.tacks(0, true, 255) ? 1 : 0, 0);
    }

    /** A TURN of FIGURE 0 turns where it is told (not in a turn, not at DIST: then it is refused). */
    private static int raceAlone(WindBay bay, int x, boolean right, int bits) {
        Due.is("alone", bay.boat(0, x, right, 0), 0);
        for (int k = 0; k < 8; k++) {
            bay.go(10);
            if ((bits >> k & 1) == 1 && bay.count(1) == 10 * (k + 1)) {
                bay.turn(0);
            }
        }
        for (int i = 0; i < 4; i++) {
            bay.go(100);
        }
        return bay.of(0, 5) == -4 ? 400 : bay.of(0, 5);
    }

    private static WindBay bayOf(int law, int dist, int tide, int cost) {
        WindBay bay = new WindBay();
        Due.law(bay, LAWS[law]);
        bay.set(0, dist);
        bay.set(1, tide);
        bay.set(2, 70);
        bay.set(3, cost);
        bay.set(4, 17);
        return bay;
    }

    private static void tacksAsARace() {
        int[] dists = {40, 130, 200, 400};
        for (int law = 0; law < LAWS.length; law++) {
            for (int i = 0; i < 24; i++) {
                int bits = (i * 37 + law * 101) % 256;
                int x = (i * 61 + law * 17) % 397 - 198;
                int cost = 1 + i % 9;
                WindBay race = bayOf(law, dists[i % 4], i % 3, cost);
                WindBay alone = bayOf(law, dists[i % 4], i % 3, cost);
                Due.is("tacks(" + x + ", " + bits + ") by " + LAWS[law] + ", case " + i,
                    alone.tacks(x, i % 2 == 0, bits), raceAlone(race, x, i % 2 == 0, bits));
            }
        }
    }

    private static void tacksWhateverTheRace() {
        WindBay bay = bayOf(1, 200, 1, 2);
        int due = bay.tacks(30, true, 21);
        bay.boat(0, 30, true, 1);
        bay.boat(0, 34, true, 1);
        bay.go(25);
        Due.is("WINDS from SECOND 0 on, no others", bay.tacks(30, true, 21), due);
        Due.is("the RACE goes on as it was", bay.count(1), 25);
        Due.is("the RACE goes on as it was", bay.count(0), 2);
    }

    private static int least(WindBay bay, int x, boolean right) {
        int best = Integer.MAX_VALUE;
        for (int bits = 255; bits >= 0; bits--) {
            int all = bay.tacks(x, right, bits) * 1000 + bits;
            best = all < best ? all : best;
        }
        return best;
    }

    private static void bestOfAll() {
        int[] dists = {40, 150, 200, 400};
        for (int law = 0; law < LAWS.length; law++) {
            for (int i = 0; i < 8; i++) {
                int x = i * 57 - 200;
                WindBay bay = bayOf(law, dists[i % 4], i % 4, i + 1);
                int least = least(bay, x, i % 2 == 0);
                Due.is("best bits, " + LAWS[law] + ", " + i, bay.best(x, i % 2 == 0, 0), least % 1000);
                Due.is("best SECONDS, " + LAWS[law] + ", " + i, bay.best(x, i % 2 == 0, 1), least / 1000);
            }
        }
    }

    private static void leastBits() {
        WindBay bay = new WindBay();
        Due.is("bits", bay.best(0, true, 0), 5);
        Due.is("SECONDS", bay.best(0, true, 1), 40);
        bay.set(0, 42);
        Due.is("no turn is best", bay.best(-56, true, 0), 0);
        Due.is("no turn is best", bay.best(-56, true, 1), 7);
        Due.is("LEFT", bay.best(-56, false, 1), 21);
    }

    private static void sidesByBest() {
        WindBay plain = new WindBay();
        Due.is("of a calm bay", plain.sides(), 0);
        boolean better = false;
        boolean worse = false;
        for (int law = 0; law < LAWS.length; law++) {
            for (int i = 0; i < 4; i++) {
                WindBay bay = bayOf(law, 160 + 40 * i, i, 2);
                int from = Math.min(bay.best(100, true, 1), bay.best(100, false, 1));
                int left = Math.min(bay.best(-100, true, 1), bay.best(-100, false, 1));
                Due.is("sides by " + LAWS[law] + ", " + i, bay.sides(), from - left);
                better |= from > left;
                worse |= from < left;
            }
        }
        Due.is("a side was better, and worse", better && worse ? 1 : 0, 1);
        // where SHORE ends at 99 or 100, a start one off 100 or -100 would tell
        for (int dist = 40; dist < 80; dist++) {
            for (String law : new String[] {"0", "20", "0-20"}) {
                WindBay bay = new WindBay();
                bay.set(0, dist);
                bay.set(1, 3);
                bay.set(2, 99 + dist % 2);
                Due.law(bay, law);
                int from = Math.min(bay.best(100, true, 1), bay.best(100, false, 1));
                int left = Math.min(bay.best(-100, true, 1), bay.best(-100, false, 1));
                Due.is("sides, DIST " + dist + " by " + law, bay.sides(), from - left);
            }
        }
    }
}
