/** Boundary cases of the Terms by which sailors of KINDS turn (promise 9, go), sentence by sentence. */
public final class EdgesKindsTest {
    private static final int TURN = 0;
    private static final int HEADED = 1;
    private static final int FORCED = 2;
    private static final int COVERING = 3;
    private static final int FEIGNED = 4;
    private static final int SIDE = 5;
    private static final int LAST = 6;
    private static final int COSTLY = 7;

    public static void main(String[] args) {
        when();
        turn();
        headed();
        forced();
        covering();
        coveringWhom();
        feigned();
        side();
        last();
        costly();
        Due.end();
    }

    private static WindBay one(int kind, int x, boolean right, int figure) {
        WindBay bay = new WindBay();
        bay.set(0, 400);
        bay.boat(kind, x, right, figure);
        return bay;
    }

    /** Whether the BOAT turns at the end of its first SECOND. */
    private static void atOnce(int kind, int x, boolean right, int figure, String law, boolean due) {
        WindBay bay = one(kind, x, right, figure);
        Due.law(bay, law);
        bay.go(1);
        Due.is("KIND " + kind + ", FIGURE " + figure + " from " + x + " by " + law, bay.of(0, 7), due ? 1 : 0);
        Due.is("RIGHT", bay.of(0, 3), right != due ? 1 : 0);
    }

    /** How often the BOAT turned by its KIND alone, told turns at 0, 10, .. and TIDE keep it from DIST. */
    private static int turnsTill(WindBay bay, int second) {
        bay.set(1, 3);
        bay.set(2, 200);
        bay.set(3, 9);
        int told = 0;
        while (bay.count(1) < second) {
            told += bay.turn(0) == 9 ? 1 : 0;
            bay.go(10);
        }
        return bay.of(0, 7) - told;
    }

    private static void when() {
        Due.sentence("9: By KINDS at the end of each SECOND (.. not in a turn then", () -> {
            WindBay bay = one(TURN, 0, true, 1);
            bay.set(3, 5);
            bay.go(4);
            bay.turn(0);
            bay.go(1);
            Due.boat("in a turn at 5", bay, 0, 32, 24, false, 4, 1);
            bay.go(4);
            Due.boat("by at 9", bay, 0, 32, 24, false, 0, 1);
            bay.go(1);
            Due.boat("turned at 10", bay, 0, 24, 30, true, 5, 2);
            bay.go(5);
            Due.boat("the turn by at 15: not in it then", bay, 0, 24, 30, false, 5, 3);
            bay.set(3, 6);
            bay.go(5);
            Due.boat("the turn by at 20", bay, 0, 24, 30, true, 6, 4);
            bay.go(5);
            Due.boat("one SECOND left at 25", bay, 0, 24, 30, true, 1, 4);
        });
        Due.sentence("9: .. not at DIST): no KIND turns there", EdgesKindsTest::notAtDist);
        Due.sentence("9: the SECOND is how many went by", () -> {
            WindBay bay = one(TURN, 0, true, 1);
            bay.go(4);
            Due.is("4", bay.of(0, 7), 0);
            bay.go(1);
            Due.is("5", bay.of(0, 7), 1);
        });
        Due.sentence("9: WIND now is that at this number", () -> {
            WindBay bay = one(HEADED, 0, true, 39);
            Due.law(bay, "(t/7-t/8)*40");
            Due.is("6", bay.wind(6), 0);
            Due.is("7", bay.wind(7), 40);
            Due.is("8", bay.wind(8), 0);
            bay.go(6);
            Due.boat("at 6", bay, 0, 48, 36, true, 0, 0);
            bay.go(1);
            Due.boat("at 7", bay, 0, 56, 42, false, 2, 1);
            WindBay first = one(HEADED, 0, true, 0);
            Due.law(first, "40*(1/(1+t))");
            first.go(1);
            Due.boat("WIND 40 at 0 slows, but turns nobody", first, 0, 8, 0, true, 0, 0);
        });
        Due.sentence("9: WIND now at SECOND 400", () -> {
            WindBay bay = one(HEADED, 0, true, 0);
            Due.law(bay, "t/400*5");
            Due.is("turns", turnsTill(bay, 400), 1);
            Due.is("ENDED", bay.go(1), -3);
            WindBay lifted = one(HEADED, 0, true, 0);
            Due.law(lifted, "t/400*(0-5)");
            Due.is("turns", turnsTill(lifted, 400), 0);
        });
    }

    /** Each KIND where it wants to turn at SECOND 10, at DIST and then 1 less than that. */
    private static void notAtDist() {
        for (int less = 0; less < 2; less++) {
            int[] figures = {2, 0, 0, 0, 2, 1, 1, 0};
            for (int kind = 0; kind < 8; kind++) {
                if (kind != FORCED) {
                    wantsAtTen(kind, figures[kind], less);
                }
            }
            WindBay forced = new WindBay();
            forced.set(0, 50 + less);
            Due.law(forced, "0-5");
            forced.boat(FORCED, 60, false, 0);
            forced.boat(TURN, -100, true, 0);
            forced.go(10);
            Due.boat("ahead, at DIST", forced, 1, -20, 56, true, 0, 0);
            Due.boat("FORCED", forced, 0, -20, 50, less == 1, 2 * less, less);
        }
    }

    private static void wantsAtTen(int kind, int figure, int less) {
        WindBay bay = new WindBay();
        bay.set(0, 60 + less);
        Due.law(bay, "t/10*5");
        bay.boat(kind, -72, true, figure);
        bay.boat(TURN, 100, true, 0);
        bay.go(9);
        Due.boat("KIND " + kind + " at 9", bay, 0, 0, 54, true, 0, 0);
        if (kind == COVERING) {
            bay.turn(1);
        }
        bay.go(1);
        Due.boat("KIND " + kind + " at 10", bay, 0, 8, 60, less == 0, 2 * less, less);
    }

    private static void turn() {
        Due.sentence("9: TURN: if FIGURE is above 0", () -> {
            Due.is("FIGURE 0", turnsTill(one(TURN, 0, true, 0), 400), 0);
            WindBay bay = one(TURN, 0, true, 0);
            bay.go(20);
            Due.boat("on and on", bay, 0, 160, 120, true, 0, 0);
        });
        Due.sentence("9: TURN: the SECOND is a multiple of 5 times FIGURE", () -> {
            for (int figure = 1; figure <= 9; figure++) {
                WindBay bay = one(TURN, -200, true, figure);
                bay.go(5 * figure - 1);
                Due.is("one SECOND ahead, FIGURE " + figure, bay.of(0, 7), 0);
                bay.go(1);
                Due.is("then, FIGURE " + figure, bay.of(0, 7), 1);
                bay.go(1);
                Due.is("behind it, FIGURE " + figure, bay.of(0, 7), 1);
            }
        });
        Due.sentence("9: TURN: .. FIGURE 40: at SECONDS 200 and 400", () -> {
            Due.is("till 190", turnsTill(one(TURN, 0, true, 40), 190), 0);
            Due.is("till 200", turnsTill(one(TURN, 0, true, 40), 200), 1);
            Due.is("till 390", turnsTill(one(TURN, 0, true, 40), 390), 1);
            Due.is("till 400", turnsTill(one(TURN, 0, true, 40), 400), 2);
        });
    }

    private static void headed() {
        Due.sentence("9: HEADED: if the WIND now takes FIGURE by 5, cut, and 1 or more of its UP", () -> {
            int[] figures = {0, 4, 5, 9, 10, 14, 15, 34, 35, 39};
            int[] winds = {5, 5, 10, 10, 15, 15, 20, 35, 40, 40};
            for (int i = 0; i < figures.length; i++) {
                atOnce(HEADED, 0, true, figures[i], "" + winds[i], true);
                atOnce(HEADED, 0, true, figures[i], "" + (winds[i] - 1), false);
                atOnce(HEADED, 0, false, figures[i], "0-" + winds[i], true);
                atOnce(HEADED, 0, false, figures[i], "0-" + (winds[i] - 1), false);
            }
        });
        Due.sentence("9: HEADED: a FIGURE of 40 asks for 9, which no WIND takes", () -> {
            atOnce(HEADED, 0, true, 40, "40", false);
            atOnce(HEADED, 0, false, 40, "0-40", false);
        });
        Due.sentence("9: HEADED: what gives UP takes nothing", () -> {
            atOnce(HEADED, 0, true, 0, "0-40", false);
            atOnce(HEADED, 0, false, 0, "40", false);
            atOnce(HEADED, 0, true, 0, "0", false);
            atOnce(HEADED, 0, false, 0, "0", false);
        });
        Due.sentence("9: HEADED: at no multiple of 5 times FIGURE", () -> {
            WindBay bay = one(HEADED, 0, true, 1);
            bay.go(20);
            Due.is("turns", bay.of(0, 7), 0);
        });
    }

    /** BOAT 0 at x 8 and y 6 ahead; BOAT 1 at y 0 behind a turn told. */
    private static WindBay behind(int kind, int x) {
        WindBay bay = new WindBay();
        bay.set(3, 1);
        bay.boat(TURN, 0, true, 0);
        bay.boat(kind, x, true, 1);
        bay.turn(1);
        bay.go(1);
        return bay;
    }

    private static void forced() {
        Due.sentence("9: FORCED: if it is in BAD AIR now", () -> {
            Due.is("6 off", behind(FORCED, 14).of(1, 7), 2);
            Due.is("7 off", behind(FORCED, 15).of(1, 7), 1);
            Due.is("6 off, the other side", behind(FORCED, 2).of(1, 7), 2);
            Due.is("7 off, the other side", behind(FORCED, 1).of(1, 7), 1);
        });
        Due.sentence("9: FORCED: who is ahead isn't", () -> {
            WindBay bay = new WindBay();
            bay.set(3, 1);
            bay.boat(FORCED, 0, true, 1);
            bay.boat(TURN, 8, true, 0);
            bay.turn(1);
            bay.go(5);
            Due.is("turns", bay.of(0, 7), 0);
        });
        Due.sentence("9: FORCED: alone never, whatever FIGURE and WIND", () -> {
            WindBay bay = one(FORCED, 0, true, 1);
            Due.law(bay, "20");
            bay.go(20);
            Due.is("turns", bay.of(0, 7), 0);
        });
    }

    /** BOAT 0 goes LEFT and BOAT 1, a COVERING, RIGHT, by so much TIDE, which takes it whole within SHORE 100. */
    private static WindBay covers(int x, int own, int tide) {
        WindBay bay = new WindBay();
        bay.set(0, 400);
        bay.set(1, tide);
        bay.boat(TURN, x, false, 0);
        bay.boat(COVERING, own, true, 1);
        bay.go(1);
        return bay;
    }

    private static void covering() {
        Due.sentence("9: COVERING: as FORCED", () -> {
            Due.is("6 off", behind(COVERING, 14).of(1, 7), 2);
            Due.is("7 off", behind(COVERING, 15).of(1, 7), 1);
        });
        Due.sentence("9: COVERING: .. goes the other way and is behind it in y: by 1", () -> {
            WindBay bay = covers(0, 120, 1);
            Due.boat("behind", bay, 0, -8, 5, false, 0, 0);
            Due.boat("covers", bay, 1, 128, 6, false, 2, 1);
        });
        Due.sentence("9: COVERING: .. is behind it in y: who is level isn't", () -> {
            WindBay bay = covers(0, 120, 0);
            Due.boat("level", bay, 1, 128, 6, true, 0, 0);
        });
        Due.sentence("9: COVERING: .. is behind it in y: who is ahead isn't", () -> {
            WindBay bay = covers(120, 0, 1);
            Due.boat("ahead", bay, 0, 112, 6, false, 0, 0);
            Due.boat("covers nobody", bay, 1, 8, 5, true, 0, 0);
        });
        Due.sentence("9: COVERING: .. goes the other way: the same way is none", () -> {
            for (int way = 0; way < 2; way++) {
                WindBay bay = new WindBay();
                bay.set(1, 1);
                bay.boat(TURN, 0, way == 1, 0);
                bay.boat(COVERING, 120, way == 1, 1);
                bay.go(1);
                Due.is("behind", bay.of(0, 2), 5);
                Due.is("turns", bay.of(1, 7), 0);
            }
        });
        Due.sentence("9: COVERING: however far behind", () -> {
            WindBay bay = new WindBay();
            bay.set(0, 400);
            bay.set(3, 0);
            bay.set(3, 9);
            Due.gain(bay, 14);
            bay.boat(TURN, 0, false, 0);
            bay.boat(COVERING, -200, true, 0);
            bay.turn(0);
            bay.go(9);
            Due.boat("the same way, 126 behind", bay, 0, 0, 0, true, 0, 1);
            Due.boat("covers nobody", bay, 1, -128, 126, true, 0, 0);
            bay.set(3, 0);
            bay.turn(0);
            bay.go(1);
            Due.boat("140 behind", bay, 0, -8, 0, false, 0, 2);
            Due.boat("covers", bay, 1, -120, 140, false, 0, 1);
        });
    }

    private static void coveringWhom() {
        Due.sentence("9: COVERING: the BOAT of the number ahead", () -> {
            for (int number = 1; number < 4; number++) {
                WindBay bay = fourWith(number, number - 1);
                Due.is("BOAT " + number, bay.of(number, 7), 1);
                for (int other = 0; other < 4; other++) {
                    if (other != number && other != number - 1) {
                        Due.is("BOAT " + number + ", not " + other, fourWith(number, other).of(number, 7), 0);
                    }
                }
            }
        });
        Due.sentence("9: COVERING: (of 0 the last one", () -> {
            Due.is("of four", fourWith(0, 3).of(0, 7), 1);
            Due.is("of four, not 1", fourWith(0, 1).of(0, 7), 0);
            Due.is("of four, not 2", fourWith(0, 2).of(0, 7), 0);
            WindBay two = new WindBay();
            two.set(1, 1);
            two.boat(COVERING, 120, true, 0);
            two.boat(TURN, 0, false, 0);
            two.go(1);
            Due.is("of two", two.of(0, 7), 1);
            WindBay three = new WindBay();
            three.set(1, 1);
            three.boat(COVERING, 120, true, 0);
            three.boat(TURN, 0, true, 0);
            three.boat(TURN, -50, false, 0);
            three.go(1);
            Due.is("of three", three.of(0, 7), 1);
        });
        Due.sentence("9: COVERING: .. not itself)", () -> {
            WindBay bay = one(COVERING, 0, true, 0);
            Due.gain(bay, 14);
            bay.go(10);
            Due.boat("alone", bay, 0, 80, 140, true, 0, 0);
        });
        Due.sentence("9: (each by what the others did at the end of the SECOND ahead)", () -> {
            for (int covering = 0; covering < 2; covering++) {
                WindBay bay = new WindBay();
                bay.set(0, 400);
                bay.set(1, 1);
                for (int i = 0; i < 2; i++) {
                    bay.boat(i == covering ? COVERING : TURN, i == covering ? 120 : 0, true, 1);
                }
                bay.go(5);
                Due.boat("turned at 5", bay, 1 - covering, 40, 25, false, 2, 1);
                Due.boat("not yet", bay, covering, 160, 30, true, 0, 0);
                bay.go(1);
                Due.boat("at 6", bay, covering, 168, 36, false, 2, 1);
            }
        });
    }

    /** All go RIGHT but one, which goes LEFT and comes to y 5; the COVERING, far out, comes to y 6. */
    private static WindBay fourWith(int covering, int other) {
        WindBay bay = new WindBay();
        bay.set(1, 1);
        for (int i = 0; i < 4; i++) {
            bay.boat(i == covering ? COVERING : TURN, i == covering ? 150 : 20 * i, i != other, 0);
        }
        bay.go(1);
        return bay;
    }

    private static void feigned() {
        Due.sentence("9: FEIGNED: a TURN's, but just at odd multiples", () -> {
            WindBay bay = one(FEIGNED, -100, true, 1);
            bay.set(3, 0);
            int[] seconds = {4, 5, 6, 9, 10, 11, 14, 15, 16, 20, 25};
            int[] due = {0, 1, 1, 1, 1, 1, 1, 2, 2, 2, 3};
            for (int i = 0; i < seconds.length; i++) {
                bay.go(seconds[i] - bay.count(1));
                Due.is("turns at " + seconds[i], bay.of(0, 7), due[i]);
            }
        });
        Due.sentence("9: FEIGNED: a TURN's: FIGURE is above 0", () -> {
            Due.is("FIGURE 0", turnsTill(one(FEIGNED, 0, true, 0), 400), 0);
        });
        Due.sentence("9: FEIGNED: FIGURE 40: at 200, not at 400", () -> {
            Due.is("till 190", turnsTill(one(FEIGNED, 0, true, 40), 190), 0);
            Due.is("till 200", turnsTill(one(FEIGNED, 0, true, 40), 200), 1);
            Due.is("till 400", turnsTill(one(FEIGNED, 0, true, 40), 400), 1);
            Due.is("FIGURE 20, till 400", turnsTill(one(FEIGNED, 0, true, 20), 400), 2);
            Due.is("FIGURE 26: 130 and 390", turnsTill(one(FEIGNED, 0, true, 26), 400), 2);
        });
    }

    private static void side() {
        Due.sentence("9: SIDE: if it is FIGURE times 5 or more from 0 in x", () -> {
            for (int figure = 2; figure <= 39; figure++) {
                for (int off = -1; off <= 1; off++) {
                    atOnce(SIDE, 5 * figure + off - 8, true, figure, "0", off >= 0);
                    atOnce(SIDE, 8 - 5 * figure - off, false, figure, "0", off >= 0);
                }
            }
        });
        Due.sentence("9: SIDE: FIGURE 40: at 200 alone", () -> {
            atOnce(SIDE, 191, true, 40, "0", false);
            atOnce(SIDE, 192, true, 40, "0", true);
            atOnce(SIDE, -191, false, 40, "0", false);
            atOnce(SIDE, -192, false, 40, "0", true);
        });
        Due.sentence("9: SIDE: .. on the side to which it goes", () -> {
            atOnce(SIDE, -100, true, 10, "0", false);
            atOnce(SIDE, 100, false, 10, "0", false);
            atOnce(SIDE, -58, true, 10, "0", false);
            atOnce(SIDE, 58, false, 10, "0", false);
        });
        Due.sentence("9: SIDE: FIGURE 0: wherever it goes away from 0", () -> {
            atOnce(SIDE, -7, true, 0, "0", true);
            atOnce(SIDE, -9, true, 0, "0", false);
            atOnce(SIDE, 7, false, 0, "0", true);
            atOnce(SIDE, 9, false, 0, "0", false);
        });
    }

    /** A LAST of FIGURE 40 from x on, which comes to y 6 in its first SECOND. */
    private static void lastBy(int dist, int x, boolean right, boolean due) {
        WindBay bay = new WindBay();
        bay.set(0, dist);
        bay.boat(LAST, x, right, 40);
        bay.go(1);
        Due.is("y", bay.of(0, 2), 6);
        Due.is("turns from " + x + ", DIST " + dist, bay.of(0, 7), due ? 1 : 0);
    }

    private static void last() {
        Due.sentence("9: LAST: a SIDE's", () -> {
            atOnce(LAST, 42, true, 10, "0", true);
            atOnce(LAST, 41, true, 10, "0", false);
            atOnce(LAST, -42, false, 10, "0", true);
            atOnce(LAST, -41, false, 10, "0", false);
            atOnce(LAST, -100, true, 10, "0", false);
        });
        Due.sentence("9: LAST: 8 times what is left to DIST, by 6, cut, is no more than how far it is from 0 in x", () -> {
            int[] dists = {66, 67, 68, 69, 40, 126};
            int[] far = {80, 81, 82, 84, 45, 160};
            for (int i = 0; i < dists.length; i++) {
                lastBy(dists[i], far[i] - 8, true, true);
                lastBy(dists[i], far[i] - 9, true, false);
                lastBy(dists[i], 8 - far[i], false, true);
                lastBy(dists[i], 9 - far[i], false, false);
            }
        });
        Due.sentence("9: LAST: 1 left to DIST (8 by 6, cut, is 1) at x 1 and -1", () -> {
            for (int dist = 43; dist <= 44; dist++) {
                WindBay bay = new WindBay();
                bay.set(0, dist);
                bay.boat(LAST, -55, true, 40);
                bay.boat(LAST, 55, false, 40);
                bay.go(7);
                int left = dist == 43 ? 1 : 0;
                Due.boat("RIGHT, DIST " + dist, bay, 0, 1, 42, left == 0, 2 * left, left);
                Due.boat("LEFT, DIST " + dist, bay, 1, -1, 42, left == 1, 2 * left, left);
            }
        });
        Due.sentence("9: LAST: .. if it goes away from 0", () -> {
            lastBy(66, 88, false, false);
            lastBy(66, -88, true, false);
            lastBy(40, 200, false, false);
            lastBy(40, -200, true, false);
        });
    }

    private static void costlyBy(int cost, boolean atOne, boolean atTen) {
        WindBay bay = one(COSTLY, -100, true, 0);
        bay.set(3, cost);
        Due.law(bay, "t/9*5-t/11*5");
        bay.go(8);
        Due.is("not headed at 8, COST " + cost, bay.of(0, 7), 0);
        bay.go(1);
        Due.is("headed at 9, COST " + cost, bay.of(0, 7), atOne ? 1 : 0);
        WindBay ten = one(COSTLY, -100, true, 0);
        ten.set(3, cost);
        Due.law(ten, "t/10*5-t/11*5");
        ten.go(9);
        Due.is("not headed at 9, COST " + cost, ten.of(0, 7), 0);
        ten.go(1);
        Due.is("headed at 10, COST " + cost, ten.of(0, 7), atTen ? 1 : 0);
    }

    private static void costly() {
        Due.sentence("9: COSTLY: a HEADED's, if COST is 2 or less", () -> {
            costlyBy(0, true, true);
            costlyBy(1, true, true);
            costlyBy(2, true, true);
        });
        Due.sentence("9: COSTLY: a HEADED's, if .. the SECOND is a multiple of 10", () -> {
            costlyBy(3, false, true);
            costlyBy(4, false, true);
            costlyBy(9, false, true);
            WindBay bay = one(COSTLY, -100, true, 0);
            bay.set(3, 3);
            Due.law(bay, "t/11*5");
            bay.go(19);
            Due.is("headed from 11 on, at 19", bay.of(0, 7), 0);
            bay.go(1);
            Due.is("at 20", bay.of(0, 7), 1);
        });
        Due.sentence("9: COSTLY: a HEADED's: FIGURE by 5, cut, and 1", () -> {
            int[] figures = {0, 4, 5, 39};
            int[] winds = {5, 5, 10, 40};
            for (int i = 0; i < figures.length; i++) {
                atOnce(COSTLY, 0, true, figures[i], "" + winds[i], true);
                atOnce(COSTLY, 0, true, figures[i], "" + (winds[i] - 1), false);
                atOnce(COSTLY, 0, false, figures[i], "0-" + winds[i], true);
                atOnce(COSTLY, 0, false, figures[i], "" + winds[i], false);
            }
            atOnce(COSTLY, 0, true, 40, "40", false);
        });
        Due.sentence("9: COSTLY: not headed it turns at no multiple of 10", () -> {
            for (int cost = 2; cost <= 3; cost++) {
                WindBay bay = one(COSTLY, -100, true, 0);
                bay.set(3, cost);
                bay.go(25);
                Due.is("COST " + cost, bay.of(0, 7), 0);
            }
        });
    }
}
