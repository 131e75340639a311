/** Boundary cases of the Terms by which a BOAT goes on in a SECOND (promise 9, go), sentence by sentence. */
public final class EdgesSailTest {
    public static void main(String[] args) {
        heldInX();
        outAtTheEdges();
        upByWind();
        tides();
        badAirInIt();
        inATurn();
        atDist();
        comingIn();
        allByPlacesAtTheBegin();
        Due.end();
    }

    private static WindBay one(int x, boolean right) {
        WindBay bay = new WindBay();
        bay.set(0, 400);
        bay.boat(0, x, right, 0);
        return bay;
    }

    private static void heldInX() {
        Due.sentence("9: it goes 8 in x the way it goes", () -> {
            WindBay right = one(0, true);
            right.go(1);
            Due.boat("RIGHT", right, 0, 8, 6, true, 0, 0);
            WindBay left = one(0, false);
            left.go(1);
            Due.boat("LEFT", left, 0, -8, 6, false, 0, 0);
        });
        Due.sentence("9: (held to -200 .. 200)", () -> {
            int[] from = {191, 192, 193, 199, 200};
            int[] to = {199, 200, 200, 200, 200};
            for (int i = 0; i < from.length; i++) {
                WindBay right = one(from[i], true);
                right.go(1);
                Due.is("x RIGHT from " + from[i], right.of(0, 1), to[i]);
                WindBay left = one(-from[i], false);
                left.go(1);
                Due.is("x LEFT from " + -from[i], left.of(0, 1), -to[i]);
            }
        });
    }

    private static void outAtTheEdges() {
        Due.sentence("9: Who goes out at -200 or 200 turns at the end of the SECOND", () -> {
            for (int x = 192; x <= 200; x++) {
                WindBay right = one(x, true);
                right.go(1);
                Due.boat("RIGHT from " + x, right, 0, 200, 6, false, 2, 1);
                WindBay left = one(-x, false);
                left.go(1);
                Due.boat("LEFT from " + -x, left, 0, -200, 6, true, 2, 1);
            }
        });
        Due.sentence("9: who is at 199 or -199 is not out", () -> {
            WindBay right = one(191, true);
            right.go(1);
            Due.boat("RIGHT", right, 0, 199, 6, true, 0, 0);
            right.go(1);
            Due.boat("RIGHT", right, 0, 200, 12, false, 2, 1);
            WindBay left = one(-191, false);
            left.go(1);
            Due.boat("LEFT", left, 0, -199, 6, false, 0, 0);
        });
        Due.sentence("9: who goes away from -200 or 200 doesn't go out", () -> {
            WindBay right = one(200, false);
            right.go(1);
            Due.boat("LEFT from 200", right, 0, 192, 6, false, 0, 0);
            WindBay left = one(-200, true);
            left.go(1);
            Due.boat("RIGHT from -200", left, 0, -192, 6, true, 0, 0);
        });
        Due.sentence("9: .. whatever its KIND", () -> {
            for (int kind = 0; kind < 8; kind++) {
                WindBay bay = new WindBay();
                bay.set(0, 400);
                bay.boat(kind, 196, true, 40);
                bay.boat(kind, -196, false, 40);
                bay.go(1);
                Due.boat("KIND " + kind, bay, 0, 200, 6, false, 2, 1);
                Due.boat("KIND " + kind, bay, 1, -200, 6, true, 2, 1);
            }
        });
        Due.sentence("9: .. and its KIND's turn besides is one turn", () -> {
            WindBay bay = new WindBay();
            bay.boat(0, 160, true, 1);
            bay.boat(5, 196, true, 0);
            bay.go(1);
            Due.boat("a SIDE's", bay, 1, 200, 6, false, 2, 1);
            bay.go(4);
            Due.boat("a TURN's at 5", bay, 0, 200, 30, false, 2, 1);
        });
        Due.sentence("9: Who goes out .. (not at DIST)", () -> {
            WindBay bay = new WindBay();
            bay.set(0, 42);
            bay.boat(0, 144, true, 0);
            bay.boat(0, -144, false, 0);
            bay.go(7);
            Due.boat("at DIST", bay, 0, 200, 42, true, 0, 0);
            Due.boat("at DIST", bay, 1, -200, 42, false, 0, 0);
            WindBay less = new WindBay();
            less.set(0, 43);
            less.boat(0, 144, true, 0);
            less.boat(0, -144, false, 0);
            less.go(7);
            Due.boat("1 less", less, 0, 200, 42, false, 2, 1);
            Due.boat("1 less", less, 1, -200, 42, true, 2, 1);
        });
    }

    private static void upByWind() {
        Due.sentence("9: and WIND by 5 (cut toward 0) more if it goes LEFT, less if it goes RIGHT", () -> {
            int[] winds = {0, 1, 4, 5, 6, 9, 10, 14, 15, 29, 30};
            int[] fifths = {0, 0, 0, 1, 1, 1, 2, 2, 3, 5, 6};
            for (int i = 0; i < winds.length; i++) {
                up("" + winds[i], true, 6 - fifths[i]);
                up("" + winds[i], false, 6 + fifths[i]);
                up("0-" + winds[i], true, 6 + fifths[i]);
                up("0-" + winds[i], false, 6 - fifths[i]);
            }
        });
        Due.sentence("9: 0 at least", () -> {
            up("34", true, 0);
            up("35", true, 0);
            up("40", true, 0);
            up("0-35", false, 0);
            up("0-40", false, 0);
            up("40", false, 14);
            up("0-40", true, 14);
        });
        Due.sentence("9: WIND at the number of SECONDS that went by ahead of it", () -> {
            WindBay bay = one(-200, true);
            Due.law(bay, "0-40*(1/(1+(t-1)*(t-1)))");
            Due.is("WIND at 1", bay.wind(1), -40);
            bay.go(1);
            Due.is("by WIND at 0", bay.of(0, 2), 6);
            bay.go(1);
            Due.is("by WIND at 1", bay.of(0, 2), 20);
            bay.go(1);
            Due.is("by WIND at 2", bay.of(0, 2), 26);
        });
        Due.sentence("9: the last SECOND goes by WIND at 399", () -> {
            WindBay bay = EdgesBoatTest.inAt400();
            Due.law(bay, "(t-399)*30");
            bay.go(2);
            Due.is("SECOND 399", bay.count(1), 399);
            int y = bay.of(0, 2);
            bay.go(1);
            Due.is("by WIND 0", bay.of(0, 2), y + 6);
        });
    }

    private static void up(String law, boolean right, int due) {
        WindBay bay = one(0, right);
        Due.law(bay, law);
        bay.go(1);
        Due.is("UP by " + law, bay.of(0, 2), due);
    }

    /** What a BOAT gains in a SECOND from x on. */
    private static void gainFrom(int x, boolean right, int tide, int shore, int due) {
        WindBay bay = new WindBay();
        bay.set(1, tide);
        bay.set(2, shore);
        bay.boat(0, x, right, 0);
        bay.go(1);
        Due.is("y from " + x + ", TIDE " + tide + ", SHORE " + shore, bay.of(0, 2), due);
    }

    private static void tides() {
        Due.sentence("9: TIDE .. where x is within SHORE of 0", () -> {
            gainFrom(99, true, 2, 100, 4);
            gainFrom(100, true, 2, 100, 4);
            gainFrom(101, false, 2, 100, 5);
            gainFrom(0, true, 2, 100, 4);
        });
        Due.sentence("9: .. (both ways)", () -> {
            gainFrom(-99, false, 2, 100, 4);
            gainFrom(-100, false, 2, 100, 4);
            gainFrom(-101, true, 2, 100, 5);
        });
        Due.sentence("9: SHORE (0 ..)", () -> {
            gainFrom(0, true, 2, 0, 4);
            gainFrom(1, false, 2, 0, 5);
            gainFrom(-1, true, 2, 0, 5);
        });
        Due.sentence("9: SHORE (.. 200)", () -> {
            gainFrom(200, false, 2, 200, 4);
            gainFrom(-200, true, 2, 200, 4);
            gainFrom(200, false, 2, 199, 5);
            gainFrom(-200, true, 2, 199, 5);
        });
        Due.sentence("9: half of it, cut, elsewhere", () -> {
            int[] half = {0, 0, 1, 1};
            for (int tide = 0; tide <= 3; tide++) {
                gainFrom(50, true, tide, 100, 6 - tide);
                gainFrom(150, true, tide, 100, 6 - half[tide]);
                gainFrom(-150, true, tide, 100, 6 - half[tide]);
            }
        });
        Due.sentence("9: less the TIDE where it is ahead of it", () -> {
            gainFrom(100, true, 3, 100, 3);
            gainFrom(101, false, 3, 100, 5);
            gainFrom(-101, true, 3, 100, 5);
        });
        Due.sentence("9: less the TIDE; 0 at least", () -> {
            int[][] cases = {{2, 3, 0}, {3, 3, 0}, {4, 3, 1}, {0, 3, 0}, {1, 1, 0}, {0, 0, 0}};
            for (int[] c : cases) {
                WindBay bay = one(0, true);
                bay.set(1, c[1]);
                Due.gain(bay, c[0]);
                bay.go(1);
                Due.is("UP " + c[0] + ", TIDE " + c[1], bay.of(0, 2), c[2]);
            }
        });
        Due.sentence("9: 0 at least: y isn't taken back while it goes", () -> {
            WindBay bay = one(0, true);
            bay.set(1, 3);
            bay.go(1);
            Due.is("y", bay.of(0, 2), 3);
            Due.gain(bay, 0);
            bay.go(3);
            Due.boat("without a gain", bay, 0, 32, 3, true, 0, 0);
        });
    }

    /** BOAT 1 is level in x and so far behind BOAT 0; both go RIGHT with that UP. */
    private static WindBay follower(int tide) {
        WindBay bay = new WindBay();
        bay.set(0, 400);
        bay.set(3, 1);
        bay.boat(0, 0, true, 0);
        bay.boat(0, 8, false, 0);
        bay.turn(1);
        bay.go(1);
        bay.set(1, tide);
        return bay;
    }

    private static void badAirInIt() {
        Due.sentence("9: 2 less in BAD AIR", () -> {
            WindBay bay = follower(0);
            bay.go(1);
            Due.boat("ahead", bay, 0, 16, 12, true, 0, 0);
            Due.boat("behind", bay, 1, 16, 4, true, 0, 1);
        });
        Due.sentence("9: 2 less in BAD AIR; 0 at least", () -> {
            int[] ups = {0, 1, 2, 3};
            int[] due = {0, 0, 0, 1};
            for (int i = 0; i < ups.length; i++) {
                WindBay bay = follower(0);
                Due.gain(bay, ups[i]);
                bay.go(1);
                Due.is("ahead", bay.of(0, 2), 6 + ups[i]);
                Due.is("behind", bay.of(1, 2), due[i]);
            }
        });
        Due.sentence("9: 2 less in BAD AIR; less the TIDE; 0 at least", () -> {
            int[] ups = {4, 5, 6, 7};
            int[] due = {0, 0, 1, 2};
            for (int i = 0; i < ups.length; i++) {
                WindBay bay = follower(3);
                Due.gain(bay, ups[i]);
                bay.go(1);
                Due.is("ahead", bay.of(0, 2), 6 + ups[i] - 3);
                Due.is("behind", bay.of(1, 2), due[i]);
            }
        });
        Due.sentence("9: 2 less in BAD AIR, of how many others ever", () -> {
            WindBay bay = new WindBay();
            bay.set(0, 400);
            bay.boat(0, 18, false, 0);
            bay.boat(0, 0, true, 0);
            bay.boat(0, 1, true, 0);
            bay.boat(0, 2, true, 0);
            bay.turn(0);
            bay.go(3);
            Due.is("6 less 2", bay.of(0, 2), 4);
        });
    }

    private static void inATurn() {
        Due.sentence("9: In a turn it stays, with one SECOND of the turn less", () -> {
            WindBay bay = one(40, true);
            bay.set(3, 3);
            bay.go(2);
            bay.turn(0);
            for (int left = 2; left >= 0; left--) {
                bay.go(1);
                Due.boat("stays", bay, 0, 56, 12, false, left, 1);
            }
            bay.go(1);
            Due.boat("on", bay, 0, 48, 18, false, 0, 1);
        });
        Due.sentence("9: .. whatever the WIND and BAD AIR", () -> {
            WindBay bay = follower(0);
            bay.turn(1);
            Due.law(bay, "0-40");
            bay.go(1);
            Due.boat("stays", bay, 1, 8, 0, false, 0, 2);
        });
        Due.sentence("9: the TIDE, which takes it back in y, not below 0", () -> {
            int[] tides = {0, 1, 2, 3};
            for (int tide : tides) {
                WindBay bay = one(0, true);
                bay.set(3, 9);
                Due.gain(bay, 4);
                bay.go(1);
                bay.turn(0);
                bay.set(1, tide);
                int y = 4;
                for (int i = 0; i < 5; i++) {
                    bay.go(1);
                    y = y > tide ? y - tide : 0;
                    y = tide == 0 ? 4 : y;
                    Due.is("y, TIDE " + tide, bay.of(0, 2), y);
                }
            }
        });
        Due.sentence("9: the TIDE in a turn: half of it, cut, elsewhere", () -> {
            int[] xs = {92, 93, -108, -109};
            int[] due = {3, 5, 3, 5};
            for (int i = 0; i < xs.length; i++) {
                WindBay bay = one(xs[i], true);
                bay.go(1);
                bay.turn(0);
                bay.set(1, 3);
                bay.go(1);
                Due.boat("from " + xs[i], bay, 0, xs[i] + 8, due[i], false, 1, 1);
            }
        });
        Due.sentence("9: a turn at 200 goes by as others", () -> {
            WindBay bay = one(196, true);
            bay.go(1);
            Due.boat("out", bay, 0, 200, 6, false, 2, 1);
            bay.go(1);
            Due.boat("in it", bay, 0, 200, 6, false, 1, 1);
            bay.go(1);
            Due.boat("by", bay, 0, 200, 6, false, 0, 1);
            bay.go(1);
            Due.boat("on", bay, 0, 192, 12, false, 0, 1);
        });
    }

    /** At DIST 42 at SECOND 7, x so far as told then. */
    private static WindBay atDist(int x, boolean right) {
        WindBay bay = new WindBay();
        bay.set(0, 42);
        bay.boat(0, right ? x - 56 : x + 56, right, 0);
        bay.go(7);
        Due.boat("at DIST", bay, 0, x, 42, right, 0, 0);
        return bay;
    }

    private static void atDist() {
        Due.sentence("9: Who is at DIST or beyond: one less is not", () -> {
            WindBay bay = new WindBay();
            bay.set(0, 43);
            bay.boat(0, 0, true, 0);
            bay.go(8);
            Due.boat("beats on", bay, 0, 64, 48, true, 0, 0);
            bay.go(1);
            Due.boat("beyond", bay, 0, 56, 48, true, 0, 0);
        });
        Due.sentence("9: goes 8 a SECOND toward x 0 alone (no farther)", () -> {
            for (int x = 1; x <= 17; x++) {
                WindBay right = atDist(x, true);
                right.go(1);
                Due.is("from " + x, right.of(0, 1), Math.max(0, x - 8));
                WindBay left = atDist(-x, false);
                left.go(1);
                Due.is("from " + -x, left.of(0, 1), Math.min(0, 8 - x));
            }
        });
        Due.sentence("9: .. toward x 0, whichever way it went", () -> {
            WindBay bay = atDist(-20, true);
            bay.go(1);
            Due.boat("from -20", bay, 0, -12, 42, true, 0, 0);
            WindBay left = atDist(20, false);
            left.go(1);
            Due.boat("from 20", left, 0, 12, 42, false, 0, 0);
        });
        Due.sentence("9: .. alone: neither WIND nor TIDE", () -> {
            for (String law : new String[] {"40", "0-40"}) {
                WindBay bay = atDist(40, true);
                bay.set(1, 3);
                Due.law(bay, law);
                bay.go(3);
                Due.boat("by " + law, bay, 0, 16, 42, true, 0, 0);
            }
        });
        Due.sentence("9: .. no KIND turns at DIST", () -> {
            for (int kind = 0; kind < 8; kind++) {
                WindBay bay = new WindBay();
                bay.set(0, 42);
                bay.set(3, 0);
                bay.boat(kind, 30, true, 40);
                bay.go(7);
                int turns = bay.of(0, 7);
                Due.law(bay, "40");
                bay.go(3);
                Due.is("turns of KIND " + kind, bay.of(0, 7), turns);
            }
        });
        Due.sentence("9: who is no more at DIST, as that is more, beats on", () -> {
            WindBay bay = atDist(40, true);
            bay.go(1);
            Due.boat("toward 0", bay, 0, 32, 42, true, 0, 0);
            bay.set(0, 43);
            bay.go(1);
            Due.boat("beats", bay, 0, 40, 48, true, 0, 0);
        });
    }

    private static void comingIn() {
        Due.sentence("9: and is IN, once it is there (x 0, y DIST or more): y DIST", () -> {
            WindBay bay = atDist(0, true);
            Due.is("IN as it comes to DIST", bay.of(0, 5), 7);
        });
        Due.sentence("9: .. y more than DIST", () -> {
            WindBay bay = new WindBay();
            bay.set(0, 41);
            bay.boat(0, -56, true, 0);
            bay.go(7);
            Due.boat("beyond", bay, 0, 0, 42, true, 0, 0);
            Due.is("IN", bay.of(0, 5), 7);
        });
        Due.sentence("9: .. not with y one less than DIST", () -> {
            WindBay bay = new WindBay();
            bay.set(0, 43);
            bay.boat(0, -56, true, 0);
            bay.go(7);
            Due.boat("there", bay, 0, 0, 42, true, 0, 0);
            Due.is("not IN", bay.of(0, 5), -4);
        });
        Due.sentence("9: .. not with x 1", () -> {
            WindBay bay = atDist(9, true);
            bay.go(1);
            Due.is("x", bay.of(0, 1), 1);
            Due.is("not IN", bay.of(0, 5), -4);
            bay.go(1);
            Due.is("x", bay.of(0, 1), 0);
            Due.is("IN", bay.of(0, 5), 9);
        });
        Due.sentence("9: .. from the left, too", () -> {
            WindBay bay = atDist(-9, false);
            bay.go(1);
            Due.is("x", bay.of(0, 1), -1);
            Due.is("not IN", bay.of(0, 5), -4);
            bay.go(1);
            Due.is("IN", bay.of(0, 5), 9);
        });
        Due.sentence("9: who is IN stays", () -> {
            WindBay bay = new WindBay();
            bay.set(0, 42);
            bay.boat(0, -56, true, 2);
            bay.boat(0, 100, true, 0);
            bay.go(7);
            bay.set(1, 3);
            bay.set(3, 0);
            Due.law(bay, "40");
            bay.go(5);
            Due.boat("IN", bay, 0, 0, 42, true, 0, 0);
            Due.is("IN", bay.of(0, 5), 7);
            bay.set(0, 400);
            bay.go(8);
            Due.boat("IN by a DIST that was less", bay, 0, 0, 42, true, 0, 0);
            Due.is("IN", bay.of(0, 5), 7);
        });
    }

    private static void allByPlacesAtTheBegin() {
        Due.sentence("9: each by places as they were at its begin (BAD AIR, too): who was ahead", () -> {
            for (int behind = 0; behind < 2; behind++) {
                // 0 off at the begin; 8 off, if who is ahead went first
                WindBay bay = following(behind, 8, 1, false);
                bay.go(1);
                Due.is("slowed, as BOAT " + behind, bay.of(behind, 2), 4);
            }
        });
        Due.sentence("9: each by places as they were at its begin (BAD AIR, too): who comes there in it", () -> {
            for (int behind = 0; behind < 2; behind++) {
                // 14 off at the begin; 6 off, if who is ahead went first; 2 off at the end
                WindBay bay = following(behind, 22, 1, false);
                bay.go(1);
                Due.is("not slowed, as BOAT " + behind, bay.of(behind, 2), 6);
                Due.is("in BAD AIR then", bay.badAir(behind), 1);
            }
        });
        Due.sentence("9: each by places as they were at its begin (BAD AIR, too): who was level", () -> {
            WindBay bay = new WindBay();
            bay.boat(0, 0, true, 0);
            bay.boat(0, 4, true, 0);
            bay.go(1);
            Due.is("y of 0", bay.of(0, 2), 6);
            Due.is("y of 1", bay.of(1, 2), 6);
        });
        Due.sentence("9: then all turn by KINDS by places as they are then: in BAD AIR then alone", () -> {
            for (int behind = 0; behind < 2; behind++) {
                // 14 off at the begin, 2 off at the end
                WindBay bay = following(behind, 22, 1, true);
                Due.is("not yet", bay.of(behind, 7), 1);
                bay.go(1);
                Due.is("forced, as BOAT " + behind, bay.of(behind, 7), 2);
            }
        });
        Due.sentence("9: then all turn by KINDS by places as they are then: in BAD AIR at the begin alone", () -> {
            for (int behind = 0; behind < 2; behind++) {
                // 0 and 2 off at the begin of SECOND 2, the last of its turn; 8 and 6 off at the end
                WindBay bay = following(behind, 8, 2, true);
                Due.is("in BAD AIR", bay.badAir(behind), 1);
                bay.go(1);
                Due.boat("not forced", bay, behind, 8, 0, false, 0, 1);
                WindBay near = following(behind, 10, 2, true);
                near.go(1);
                Due.boat("forced", near, behind, 10, 0, true, 2, 2);
            }
        });
        Due.sentence("9: By KINDS .. (behind who came IN in it)", () -> {
            for (int dist = 49; dist <= 50; dist++) {
                for (int behind = 0; behind < 2; behind++) {
                    WindBay bay = new WindBay();
                    bay.set(0, dist);
                    Due.law(bay, "0-5");
                    for (int i = 0; i < 2; i++) {
                        bay.boat(i == behind ? 2 : 0, i == behind ? 59 : -56, i != behind, 0);
                    }
                    bay.go(7);
                    Due.is("IN", bay.of(1 - behind, 5), dist == 49 ? 7 : -4);
                    Due.boat("of who is 14 behind", bay, behind, 3, 35, dist > 49, dist > 49 ? 2 : 0, dist - 49);
                }
            }
        });
    }

    /**
     * At SECOND 1: one BOAT at y 6, x 8, going RIGHT; the other one, a FORCED or a TURN, at y 0 and that x,
     * going LEFT behind a turn of that COST, which began at SECOND 0.
     */
    private static WindBay following(int behind, int x, int cost, boolean forced) {
        WindBay bay = new WindBay();
        bay.set(0, 400);
        bay.set(3, cost);
        for (int i = 0; i < 2; i++) {
            bay.boat(i == behind && forced ? 2 : 0, i == behind ? x : 0, true, 0);
        }
        bay.turn(behind);
        bay.go(1);
        Due.boat("ahead", bay, 1 - behind, 8, 6, true, 0, 0);
        Due.boat("behind", bay, behind, x, 0, false, cost - 1, 1);
        return bay;
    }
}
