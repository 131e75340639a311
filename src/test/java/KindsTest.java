/** How sailors of KINDS turn in a RACE. */
public final class KindsTest {
    private static final int TURN = 0;
    private static final int HEADED = 1;
    private static final int FORCED = 2;
    private static final int COVERING = 3;
    private static final int FEIGNED = 4;
    private static final int SIDE = 5;
    private static final int LAST = 6;
    private static final int COSTLY = 7;

    public static void main(String[] args) {
        turns();
        headed();
        forced();
        covering();
        coveringTheNumberAhead();
        feigned();
        side();
        last();
        costly();
        notInATurn();
        allAtOnce();
        Due.end();
    }

    /** Without COST: the SECONDS at which a BOAT turned in the first 20, as bits. */
    private static int secondsOfTurns(WindBay bay, int boat) {
        int seconds = 0;
        int turns = bay.of(boat, 7);
        for (int second = 1; second <= 20; second++) {
            bay.go(1);
            if (bay.of(boat, 7) != turns) {
                seconds |= 1 << second;
                turns = bay.of(boat, 7);
            }
        }
        return seconds;
    }

    private static int alone(int kind, int x, boolean right, int figure, String law) {
        return alone(kind, x, right, figure, law, 0);
    }

    private static int alone(int kind, int x, boolean right, int figure, String law, int cost) {
        WindBay bay = new WindBay();
        bay.set(0, 400);
        bay.set(3, cost);
        Due.law(bay, law);
        bay.boat(kind, x, right, figure);
        return secondsOfTurns(bay, 0);
    }

    private static int at(int... seconds) {
        int all = 0;
        for (int second : seconds) {
            all |= 1 << second;
        }
        return all;
    }

    private static void turns() {
        Due.is("TURN 1", alone(TURN, 0, true, 1, "0"), at(5, 10, 15, 20));
        Due.is("TURN 2", alone(TURN, 0, false, 2, "0"), at(10, 20));
        Due.is("TURN 3", alone(TURN, 0, true, 3, "0"), at(15));
        Due.is("TURN 4", alone(TURN, 0, true, 4, "0"), at(20));
        Due.is("TURN 5", alone(TURN, 0, true, 5, "0"), 0);
        Due.is("TURN 0", alone(TURN, 0, true, 0, "0"), 0);
        Due.is("TURN by WIND", alone(TURN, 0, true, 0, "40"), 0);
    }

    private static void headed() {
        Due.is("HEADED 0 from 5 on, RIGHT", alone(HEADED, 0, true, 0, "t"), at(5));
        Due.is("HEADED 4", alone(HEADED, 0, true, 4, "t"), at(5));
        Due.is("HEADED 5", alone(HEADED, 0, true, 5, "t"), at(10));
        Due.is("HEADED 9", alone(HEADED, 0, true, 9, "t"), at(10));
        Due.is("HEADED 10", alone(HEADED, 0, true, 10, "t"), at(15));
        Due.is("HEADED 15, LEFT", alone(HEADED, 0, false, 15, "0-t"), at(20));
        Due.is("HEADED 14, LEFT", alone(HEADED, 0, false, 14, "0-t"), at(15));
        Due.is("HEADED, lifted", alone(HEADED, 0, false, 0, "t"), 0);
        Due.is("HEADED, lifted", alone(HEADED, 0, true, 0, "0-t"), 0);
        Due.is("HEADED 35 by 40", alone(HEADED, 0, true, 35, "40"), at(1));
        Due.is("HEADED 40 by 40", alone(HEADED, 0, true, 40, "40"), 0);
        Due.is("HEADED again and again", alone(HEADED, 0, true, 0, "(t%4/2*2-1)*9"), at(2, 4, 6, 8, 10, 12, 14, 16, 18, 20));
        Due.is("HEADED, by a COST", alone(HEADED, 0, true, 0, "20-t*2", 2), at(1, 13));
    }

    /** BOAT 0 goes RIGHT from 0; BOAT 1 stays behind for a SECOND. */
    private static WindBay pair(int kind, int x, int figure) {
        WindBay bay = new WindBay();
        bay.set(3, 1);
        bay.boat(TURN, 0, true, 0);
        bay.boat(kind, x, false, figure);
        bay.turn(1);
        return bay;
    }

    private static void forced() {
        WindBay bay = pair(FORCED, 10, 0);
        bay.go(1);
        Due.boat("forced", bay, 1, 10, 0, false, 1, 2);
        bay.go(1);
        Due.boat("ahead, 6 off", bay, 0, 16, 12, true, 0, 0);
        Due.boat("forced again, the turn by", bay, 1, 10, 0, true, 1, 3);
        bay.go(1);
        Due.boat("ahead, 14 off", bay, 0, 24, 18, true, 0, 0);
        Due.boat("forced no more", bay, 1, 10, 0, true, 0, 3);
        WindBay wide = pair(FORCED, 15, 1);
        wide.go(1);
        Due.boat("7 off", wide, 1, 15, 0, true, 0, 1);
        wide.go(4);
        Due.boat("no TURN's", wide, 1, 47, 24, true, 0, 1);
        WindBay calm = pair(TURN, 10, 0);
        calm.go(1);
        Due.boat("a TURN isn't forced", calm, 1, 10, 0, true, 0, 1);
    }

    private static void covering() {
        WindBay bay = pair(COVERING, 10, 0);
        bay.go(1);
        Due.boat("forced as FORCED", bay, 1, 10, 0, false, 1, 2);
        WindBay ahead = new WindBay();
        ahead.set(3, 0);
        Due.law(ahead, "0-10");
        ahead.boat(TURN, 0, false, 0);
        ahead.boat(COVERING, 100, true, 0);
        ahead.go(1);
        Due.boat("behind, the other way", ahead, 0, -8, 4, false, 0, 0);
        Due.boat("covers", ahead, 1, 108, 8, false, 0, 1);
        Due.law(ahead, "0-4");
        ahead.go(3);
        Due.boat("the same way", ahead, 1, 84, 26, false, 0, 1);
        ahead.turn(0);
        ahead.go(1);
        Due.boat("covers again", ahead, 1, 76, 32, true, 0, 2);
        WindBay behind = new WindBay();
        Due.law(behind, "10");
        behind.boat(TURN, 0, false, 0);
        behind.boat(COVERING, 100, true, 0);
        behind.go(3);
        Due.boat("who is ahead isn't covered", behind, 1, 124, 12, true, 0, 0);
        WindBay level = new WindBay();
        level.boat(TURN, 0, false, 0);
        level.boat(COVERING, 100, true, 0);
        level.go(3);
        Due.boat("of like y", level, 1, 124, 18, true, 0, 0);
    }

    private static void coveringTheNumberAhead() {
        WindBay bay = new WindBay();
        bay.set(3, 0);
        Due.law(bay, "0-10");
        bay.boat(COVERING, -150, true, 0);
        bay.boat(TURN, -50, true, 0);
        bay.boat(COVERING, 50, true, 0);
        bay.boat(TURN, 150, false, 0);
        bay.go(1);
        Due.boat("0 covers the last one", bay, 0, -142, 8, false, 0, 1);
        Due.boat("2 covers 1, which goes the same way", bay, 2, 58, 8, true, 0, 0);
        WindBay single = new WindBay();
        Due.law(single, "0-10");
        single.boat(COVERING, 0, true, 0);
        single.go(5);
        Due.boat("not itself", single, 0, 40, 40, true, 0, 0);
        WindBay two = new WindBay();
        two.set(3, 0);
        Due.law(two, "0-10");
        two.boat(COVERING, 0, true, 0);
        two.boat(TURN, 100, true, 0);
        two.boat(TURN, -100, false, 0);
        two.go(1);
        Due.boat("of three the last one", two, 0, 8, 8, false, 0, 1);
    }

    private static void feigned() {
        Due.is("FEIGNED 1", alone(FEIGNED, 0, true, 1, "0"), at(5, 15));
        Due.is("FEIGNED 2", alone(FEIGNED, 0, true, 2, "0"), at(10));
        Due.is("FEIGNED 4", alone(FEIGNED, 0, true, 4, "0"), at(20));
        Due.is("FEIGNED 0", alone(FEIGNED, 0, true, 0, "0"), 0);
    }

    private static void side() {
        Due.is("SIDE 8, RIGHT", alone(SIDE, 0, true, 8, "0"), at(5, 15));
        Due.is("SIDE 8, LEFT", alone(SIDE, 0, false, 8, "0"), at(5, 15));
        Due.is("SIDE 7: 35, at 40", alone(SIDE, 0, true, 7, "0"), at(5, 15));
        Due.is("SIDE 9: 45, at 48", alone(SIDE, 0, true, 9, "0"), at(6, 18));
        Due.is("SIDE 4, from the other side", alone(SIDE, -100, true, 4, "0"), at(15, 20));
        Due.is("SIDE 4, from the other side", alone(SIDE, 100, false, 4, "0"), at(15, 20));
        Due.is("SIDE 40", alone(SIDE, 120, true, 40, "0"), at(10));
        Due.is("SIDE 40, LEFT", alone(SIDE, -120, false, 40, "0"), at(10));
        Due.is("SIDE 0", alone(SIDE, -36, true, 0, "0"), ((1 << 21) - 1) & ~((1 << 5) - 1));
    }

    private static int lastTurn(int x, boolean right, int dist, int figure) {
        WindBay bay = new WindBay();
        bay.set(0, dist);
        bay.set(3, 0);
        bay.boat(LAST, x, right, figure);
        return secondsOfTurns(bay, 0);
    }

    private static void last() {
        Due.is("LAST 40", lastTurn(0, true, 200, 40), at(17));
        Due.is("LAST 40, LEFT", lastTurn(0, false, 200, 40), at(17));
        Due.is("just as far", lastTurn(0, true, 120, 40), at(10));
        Due.is("just as far, cut", lastTurn(1, true, 121, 40), at(10));
        Due.is("one less", lastTurn(0, true, 121, 40), at(11));
        Due.is("LEFT, cut", lastTurn(-1, false, 121, 40), at(10));
        Due.is("toward 0 it doesn't", lastTurn(-200, true, 60, 40), 0);
        Due.is("away from 0", lastTurn(-200, false, 60, 40), at(1));
        Due.is("a SIDE's, too", lastTurn(0, true, 400, 8), at(5, 15));
    }

    private static void costly() {
        Due.is("COSTLY, COST 0", alone(COSTLY, 0, true, 0, "5", 0), at(1));
        Due.is("COSTLY, COST 2", alone(COSTLY, 0, true, 0, "5", 2), at(1));
        Due.is("COSTLY, COST 3", alone(COSTLY, 0, true, 0, "5", 3), at(10));
        Due.is("COSTLY, COST 9", alone(COSTLY, 0, true, 4, "9", 9), at(10));
        Due.is("COSTLY 5, COST 9", alone(COSTLY, 0, true, 5, "9", 9), 0);
        Due.is("COSTLY, lifted", alone(COSTLY, 0, false, 0, "5", 9), 0);
        Due.is("COSTLY, lifted", alone(COSTLY, 0, false, 0, "5", 0), 0);
        Due.is("COSTLY, COST 3, later", alone(COSTLY, 0, true, 0, "t-15", 3), at(20));
    }

    private static void notInATurn() {
        Due.is("a TURN in a turn at 10", alone(TURN, 0, true, 1, "0", 5), at(5, 10, 15, 20));
        Due.is("a TURN in a turn at 10", alone(TURN, 0, true, 1, "0", 6), at(5, 15));
        WindBay bay = new WindBay();
        bay.set(3, 6);
        bay.boat(TURN, 0, true, 1);
        bay.go(5);
        Due.boat("turned at 5", bay, 0, 40, 30, false, 6, 1);
        bay.go(5);
        Due.boat("in a turn at 10", bay, 0, 40, 30, false, 1, 1);
        bay.go(5);
        Due.boat("turned at 15", bay, 0, 8, 54, true, 6, 2);
    }

    /** BOAT 1 sees BOAT 0's turn of SECOND 5 at SECOND 6. */
    private static void allAtOnce() {
        WindBay bay = new WindBay();
        bay.set(0, 400);
        bay.set(1, 3);
        bay.set(2, 40);
        bay.boat(TURN, 0, false, 1);
        bay.boat(COVERING, 100, false, 0);
        bay.go(5);
        Due.boat("turned at 5", bay, 0, -40, 15, true, 2, 1);
        Due.boat("by what 0 did ahead", bay, 1, 60, 25, false, 0, 0);
        bay.go(1);
        Due.boat("now", bay, 1, 52, 30, true, 2, 1);
    }
}
