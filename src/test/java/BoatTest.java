/** Promises 6, 7, 8, 10: boat, of, badAir, turn; and how a BOAT goes on in a SECOND. */
public final class BoatTest {
    private static final int FAR = -1000000000;

    public static void main(String[] args) {
        entering();
        telling();
        going();
        windInSails();
        tideAndShore();
        tideInATurn();
        atTheEdges();
        atDist();
        badAirEdges();
        badAirSlows();
        badAirOfWhoIsIn();
        turning();
        turningAtDist();
        inByALesserDist();
        Due.end();
    }

    private static void entering() {
        WindBay bay = new WindBay();
        Due.is("KIND below", bay.boat(-1, 0, true, 0), -1);
        Due.is("KIND beyond", bay.boat(8, 0, true, 0), -1);
        Due.is("KIND far beyond", bay.boat(Integer.MAX_VALUE, 0, true, 0), -1);
        Due.is("x below", bay.boat(0, -201, true, 0), -1);
        Due.is("x beyond", bay.boat(0, 201, true, 0), -1);
        Due.is("x far below", bay.boat(0, Integer.MIN_VALUE, true, 0), -1);
        Due.is("FIGURE below", bay.boat(0, 0, true, -1), -1);
        Due.is("FIGURE beyond", bay.boat(0, 0, true, 41), -1);
        Due.is("none came", bay.count(0), 0);
        Due.is("BOAT 0", bay.boat(0, -200, true, 0), 0);
        Due.is("BOAT 1", bay.boat(7, 200, false, 40), 1);
        bay.go(1);
        Due.is("begun", bay.boat(0, 0, true, 0), -3);
        Due.is("wrong ahead of begun", bay.boat(8, 0, true, 0), -1);
        bay.anew();
        Due.is("BOAT 2", bay.boat(3, 0, true, 0), 2);
        Due.is("BOAT 3", bay.boat(4, 0, true, 0), 3);
        Due.is("no room", bay.boat(4, 0, true, 0), -2);
        Due.is("wrong ahead of no room", bay.boat(4, 0, true, 41), -1);
        bay.go(1);
        Due.is("no room ahead of begun", bay.boat(4, 0, true, 0), -2);
        Due.is("four", bay.count(0), 4);
    }

    private static void telling() {
        WindBay bay = new WindBay();
        bay.boat(6, -30, false, 17);
        bay.boat(2, 44, true, 3);
        int[] first = {6, -30, 0, 0, 0, -4, 17, 0};
        int[] other = {2, 44, 0, 1, 0, -4, 3, 0};
        for (int what = 0; what < 8; what++) {
            Due.is("of(0, " + what + ")", bay.of(0, what), first[what]);
            Due.is("of(1, " + what + ")", bay.of(1, what), other[what]);
        }
        Due.is("what below", bay.of(0, -1), FAR - 1);
        Due.is("what beyond", bay.of(0, 8), FAR - 1);
        Due.is("BOAT below", bay.of(-1, 0), FAR - 1);
        Due.is("BOAT beyond", bay.of(2, 0), FAR - 1);
        Due.is("BOAT far beyond", bay.of(Integer.MAX_VALUE, 0), FAR - 1);
        Due.is("badAir below", bay.badAir(-1), -1);
        Due.is("badAir beyond", bay.badAir(2), -1);
        Due.is("badAir far below", bay.badAir(Integer.MIN_VALUE), -1);
        Due.is("turn below", bay.turn(-1), -1);
        Due.is("turn beyond", bay.turn(2), -1);
    }

    private static void going() {
        WindBay bay = new WindBay();
        bay.boat(0, 0, true, 0);
        bay.boat(0, 50, false, 0);
        bay.go(1);
        Due.boat("a SECOND", bay, 0, 8, 6, true, 0, 0);
        Due.boat("a SECOND", bay, 1, 42, 6, false, 0, 0);
        bay.go(9);
        Due.boat("ten", bay, 0, 80, 60, true, 0, 0);
        Due.boat("ten", bay, 1, -30, 60, false, 0, 0);
    }

    private static void windInSails() {
        int[] winds = {0, 4, 5, 9, 10, 29, 30, 31, 40};
        int[] fifths = {0, 0, 1, 1, 2, 5, 6, 6, 8};
        for (int i = 0; i < winds.length; i++) {
            upWithWind(String.valueOf(winds[i]), fifths[i]);
            upWithWind("0-" + winds[i], -fifths[i]);
        }
        WindBay bay = new WindBay();
        Due.law(bay, "t*10");
        bay.boat(0, 0, false, 0);
        bay.go(1);
        Due.is("WIND at SECOND 0", bay.of(0, 2), 6);
        bay.go(1);
        Due.is("WIND at SECOND 1", bay.of(0, 2), 14);
        bay.go(1);
        Due.is("WIND at SECOND 2", bay.of(0, 2), 24);
    }

    private static void upWithWind(String law, int fifth) {
        WindBay bay = new WindBay();
        Due.law(bay, law);
        bay.boat(0, -80, true, 0);
        bay.boat(0, 80, false, 0);
        bay.go(1);
        Due.is("RIGHT by " + law, bay.of(0, 2), Math.max(0, 6 - fifth));
        Due.is("LEFT by " + law, bay.of(1, 2), Math.max(0, 6 + fifth));
    }

    private static void tideAndShore() {
        WindBay bay = new WindBay();
        Due.is("TIDE", bay.set(1, 3), 0);
        Due.is("SHORE", bay.set(2, 60), 100);
        bay.boat(0, 60, true, 0);
        bay.boat(0, 61, false, 0);
        bay.boat(0, -60, false, 0);
        bay.boat(0, -61, true, 0);
        bay.go(1);
        Due.boat("where it is ahead of it", bay, 0, 68, 3, true, 0, 0);
        Due.boat("half of 3, cut", bay, 1, 53, 5, false, 0, 0);
        Due.boat("both ways", bay, 2, -68, 3, false, 0, 0);
        Due.boat("both ways", bay, 3, -53, 5, true, 0, 0);
        bay.go(1);
        Due.boat("outside", bay, 0, 76, 8, true, 0, 0);
        Due.boat("inside", bay, 1, 45, 8, false, 0, 0);
        WindBay foul = new WindBay();
        foul.set(1, 2);
        Due.law(foul, "25");
        foul.boat(0, 0, true, 0);
        foul.boat(0, 150, true, 0);
        foul.go(1);
        Due.is("not below 0", foul.of(0, 2), 0);
        Due.is("half of 2", foul.of(1, 2), 0);
        Due.law(foul, "20");
        foul.go(1);
        Due.is("2 less 2", foul.of(0, 2), 0);
        Due.is("2 less 1", foul.of(1, 2), 1);
        WindBay shoreless = new WindBay();
        shoreless.set(1, 3);
        shoreless.set(2, 0);
        shoreless.boat(0, 0, true, 0);
        shoreless.boat(0, 1, true, 0);
        shoreless.go(1);
        Due.is("x 0 is within SHORE 0", shoreless.of(0, 2), 3);
        Due.is("x 1 is not", shoreless.of(1, 2), 5);
    }

    private static void tideInATurn() {
        WindBay bay = new WindBay();
        bay.set(1, 3);
        bay.set(3, 4);
        bay.boat(0, 0, true, 0);
        bay.boat(0, 120, true, 0);
        bay.go(2);
        Due.boat("ahead", bay, 0, 16, 6, true, 0, 0);
        Due.boat("ahead", bay, 1, 136, 10, true, 0, 0);
        Due.is("turn", bay.turn(0), 4);
        Due.is("turn", bay.turn(1), 4);
        bay.go(1);
        Due.boat("taken back", bay, 0, 16, 3, false, 3, 1);
        Due.boat("taken back", bay, 1, 136, 9, false, 3, 1);
        bay.go(2);
        Due.boat("not below 0", bay, 0, 16, 0, false, 1, 1);
        Due.boat("taken back", bay, 1, 136, 7, false, 1, 1);
        bay.go(1);
        Due.boat("the last of the turn", bay, 0, 16, 0, false, 0, 1);
        bay.go(1);
        Due.boat("on", bay, 0, 8, 3, false, 0, 1);
        Due.boat("on", bay, 1, 128, 11, false, 0, 1);
    }

    private static void atTheEdges() {
        WindBay bay = new WindBay();
        bay.boat(0, 196, true, 0);
        bay.boat(0, -192, false, 0);
        bay.boat(0, 151, true, 0);
        bay.boat(0, -200, false, 0);
        bay.go(1);
        Due.boat("held to 200", bay, 0, 200, 6, false, 2, 1);
        Due.boat("at -200", bay, 1, -200, 6, true, 2, 1);
        Due.boat("held to -200", bay, 3, -200, 6, true, 2, 1);
        bay.go(2);
        Due.boat("behind the turn", bay, 0, 200, 6, false, 0, 1);
        bay.go(1);
        Due.boat("away from 200", bay, 0, 192, 12, false, 0, 1);
        Due.boat("away from -200", bay, 3, -192, 12, true, 0, 1);
        bay.go(2);
        Due.boat("at 199", bay, 2, 199, 36, true, 0, 0);
        bay.go(1);
        Due.boat("out later", bay, 2, 200, 42, false, 2, 1);
        WindBay quick = new WindBay();
        quick.set(3, 0);
        quick.boat(0, 190, true, 1);
        quick.go(2);
        Due.boat("without COST", quick, 0, 200, 12, false, 0, 1);
        quick.go(3);
        Due.boat("a TURN's at 5", quick, 0, 176, 30, true, 0, 2);
        WindBay once = new WindBay();
        once.set(3, 0);
        once.boat(0, 160, true, 1);
        once.go(5);
        Due.boat("both at once: one turn", once, 0, 200, 30, false, 0, 1);
    }

    private static void atDist() {
        WindBay bay = new WindBay();
        bay.set(0, 40);
        bay.set(1, 0);
        bay.boat(0, 0, true, 2);
        bay.boat(0, 4, true, 0);
        bay.boat(0, -56, true, 0);
        bay.boat(0, 144, true, 1);
        bay.go(6);
        Due.is("not yet at DIST", bay.of(2, 2), 36);
        Due.is("a TURN's at 5", bay.of(3, 7), 1);
        bay.go(1);
        Due.boat("at DIST", bay, 0, 56, 42, true, 0, 0);
        Due.boat("at DIST", bay, 2, 0, 42, true, 0, 0);
        Due.is("IN as it is there", bay.of(2, 5), 7);
        Due.is("not IN", bay.of(0, 5), -4);
        bay.go(3);
        Due.boat("no turn at DIST", bay, 0, 32, 42, true, 0, 0);
        bay.go(4);
        Due.boat("at the BUOY", bay, 0, 0, 42, true, 0, 0);
        Due.is("IN", bay.of(0, 5), 14);
        Due.boat("no farther than 0", bay, 1, 4, 42, true, 0, 0);
        Due.is("not IN", bay.of(1, 5), -4);
        bay.go(1);
        Due.boat("no farther than 0", bay, 1, 0, 42, true, 0, 0);
        Due.is("IN", bay.of(1, 5), 15);
        Due.boat("IN it stays", bay, 0, 0, 42, true, 0, 0);
        Due.is("IN it stays so", bay.of(2, 5), 7);
        WindBay out = new WindBay();
        out.set(0, 42);
        out.boat(0, 144, true, 0);
        out.boat(0, -150, false, 0);
        out.go(7);
        Due.boat("no turn at DIST at 200", out, 0, 200, 42, true, 0, 0);
        Due.boat("no turn at DIST at -200", out, 1, -200, 42, false, 0, 0);
        out.set(1, 3);
        Due.law(out, "40");
        out.go(1);
        Due.boat("neither WIND nor TIDE at DIST", out, 0, 192, 42, true, 0, 0);
        Due.boat("neither WIND nor TIDE at DIST", out, 1, -192, 42, false, 0, 0);
        out.go(23);
        Due.boat("one SECOND ahead", out, 0, 8, 42, true, 0, 0);
        Due.boat("one SECOND ahead", out, 1, -8, 42, false, 0, 0);
        Due.is("SECOND", out.go(100), 32);
        Due.is("IN", out.of(0, 5), 32);
        Due.is("IN", out.of(1, 5), 32);
        WindBay farther = new WindBay();
        farther.set(0, 40);
        farther.boat(0, 0, true, 0);
        farther.go(8);
        Due.boat("toward 0", farther, 0, 48, 42, true, 0, 0);
        Due.is("DIST is more now", farther.set(0, 60), 40);
        farther.go(1);
        Due.boat("it beats again", farther, 0, 56, 48, true, 0, 0);
        Due.is("it may turn again", farther.turn(0), 2);
    }

    /** BOAT 0 at y 6, x 8; BOAT 1 held at y 0 by a turn, x as told. */
    private static WindBay oneBehind(int x, int kind) {
        WindBay bay = new WindBay();
        bay.set(3, 1);
        bay.boat(0, 0, true, 0);
        bay.boat(kind, x, false, 0);
        Due.is("turn", bay.turn(1), 1);
        bay.go(1);
        Due.boat("ahead", bay, 0, 8, 6, true, 0, 0);
        return bay;
    }

    private static void badAirEdges() {
        int[] xs = {8, 14, 15, 2, 1};
        int[] due = {1, 1, 0, 1, 0};
        for (int i = 0; i < xs.length; i++) {
            WindBay bay = oneBehind(xs[i], 0);
            Due.is("badAir behind, x " + xs[i], bay.badAir(1), due[i]);
            Due.is("badAir ahead, x " + xs[i], bay.badAir(0), 0);
            Due.is("count in BAD AIR", bay.count(4), due[i]);
        }
        WindBay level = new WindBay();
        level.boat(0, 0, true, 0);
        level.boat(0, 0, true, 0);
        Due.is("of like y", level.badAir(0), 0);
        Due.is("of like y", level.badAir(1), 0);
        Due.law(level, "5");
        level.turn(0);
        level.turn(1);
        level.go(2);
        level.turn(0);
        level.go(2);
        Due.boat("one goes on", level, 0, 0, 0, true, 0, 2);
        Due.boat("one goes on", level, 1, -16, 14, false, 0, 1);
        Due.is("too far off", level.badAir(0), 0);
        Due.is("to see how far y counts", farBehind(1, 20), 1);
        Due.is("to see how far y counts", farBehind(1, 21), 0);
        Due.is("to see how far y counts", farBehind(1, 1), 1);
        Due.is("to see how far y counts", farBehind(1, 0), 0);
    }

    /** Two BOATS of one x (16 or so), one so much ahead in y: by WINDS while the other is in a turn. */
    private static int farBehind(int boat, int ahead) {
        WindBay bay = new WindBay();
        bay.set(3, 2);
        bay.boat(0, 0, true, 0);
        bay.boat(0, 16, false, 0);
        bay.turn(1);
        int first = Math.min(14, ahead);
        Due.law(bay, "(6-" + first + ")*5*(1-t)+(6-" + (ahead - first) + ")*5*t");
        bay.go(2);
        Due.is("y ahead", bay.of(0, 2), ahead);
        Due.is("y behind", bay.of(1, 2), 0);
        Due.is("x ahead", bay.of(0, 1), 16);
        return bay.badAir(boat);
    }

    private static void badAirSlows() {
        WindBay bay = oneBehind(10, 0);
        int gap = 6;
        int y = 0;
        for (int second = 1; second < 12; second++) {
            Due.is("y behind at " + second, bay.of(1, 2), y);
            Due.is("badAir at " + second, bay.badAir(1), gap <= 20 ? 1 : 0);
            y += gap <= 20 ? 4 : 6;
            gap += gap <= 20 ? 2 : 0;
            bay.go(1);
        }
        Due.is("gap", bay.of(0, 2) - bay.of(1, 2), 22);
        WindBay calm = oneBehind(10, 0);
        Due.law(calm, "25");
        calm.go(1);
        Due.is("UP 1 less 2 is 0", calm.of(1, 2), 0);
        Due.is("UP 1", calm.of(0, 2), 7);
    }

    private static void badAirOfWhoIsIn() {
        WindBay bay = new WindBay();
        bay.set(0, 40);
        bay.set(3, 1);
        bay.boat(0, -56, true, 0);
        bay.boat(0, -48, false, 0);
        bay.boat(0, -48, true, 0);
        Due.is("turn", bay.turn(1), 1);
        bay.go(6);
        Due.boat("ahead of the last SECOND", bay, 0, -8, 36, true, 0, 0);
        Due.boat("ahead of the last SECOND", bay, 1, -8, 20, true, 0, 1);
        Due.boat("ahead of the last SECOND", bay, 2, 0, 36, true, 0, 0);
        Due.is("in BAD AIR", bay.badAir(1), 1);
        bay.go(1);
        Due.is("IN", bay.of(0, 5), 7);
        Due.boat("slow till 0 is IN", bay, 1, 0, 24, true, 0, 1);
        Due.boat("the third", bay, 2, 8, 42, true, 0, 0);
        Due.is("who is IN gives none, the third is 8 off", bay.badAir(1), 0);
        bay.go(1);
        Due.is("the third IN", bay.of(2, 5), 8);
        Due.boat("6 in y again", bay, 1, 8, 30, true, 0, 1);
        Due.is("none", bay.count(4), 0);
        WindBay raised = new WindBay();
        raised.set(0, 40);
        raised.set(3, 0);
        raised.boat(0, -56, true, 0);
        raised.boat(0, 56, false, 0);
        Due.law(raised, "0-20");
        raised.go(4);
        Due.boat("quick", raised, 0, -24, 40, true, 0, 0);
        Due.boat("slow", raised, 1, 24, 8, false, 0, 0);
        raised.go(3);
        Due.is("IN", raised.of(0, 5), 7);
        Due.boat("slow", raised, 1, 0, 14, false, 0, 0);
        raised.set(0, 400);
        Due.law(raised, "30");
        raised.turn(1);
        raised.turn(1);
        raised.go(2);
        Due.boat("slow no more", raised, 1, -16, 38, false, 0, 2);
        Due.law(raised, "40");
        raised.turn(1);
        raised.go(2);
        Due.boat("at the BUOY's x", raised, 1, 0, 38, true, 0, 3);
        Due.boat("IN by a DIST that was less", raised, 0, 0, 40, true, 0, 0);
        Due.is("who is IN gives no BAD AIR", raised.badAir(1), 0);
        Due.law(raised, "0");
        raised.go(1);
        Due.boat("ahead of who is IN", raised, 1, 8, 44, true, 0, 3);
        raised.turn(1);
        Due.is("who is IN is in none", raised.badAir(0), 0);
    }

    private static void turning() {
        WindBay bay = new WindBay();
        bay.boat(0, 0, true, 0);
        bay.boat(5, 0, true, 40);
        bay.go(1);
        Due.is("turn", bay.turn(0), 2);
        Due.boat("in a turn", bay, 0, 8, 6, false, 2, 1);
        Due.is("in a turn", bay.turn(0), -3);
        bay.go(1);
        Due.is("in a turn", bay.turn(0), -3);
        Due.boat("refused", bay, 0, 8, 6, false, 1, 1);
        bay.go(1);
        Due.boat("the turn is by", bay, 0, 8, 6, false, 0, 1);
        Due.is("whatever its KIND", bay.turn(1), 2);
        Due.is("again", bay.turn(0), 2);
        Due.boat("the other way again", bay, 0, 8, 6, true, 2, 2);
        Due.is("all turns", bay.count(3), 3);
        Due.is("COST", bay.set(3, 9), 2);
        bay.go(2);
        Due.is("COST 9", bay.turn(0), 9);
        Due.is("COST", bay.set(3, 0), 9);
        bay.go(1);
        Due.boat("COST told later", bay, 0, 8, 6, false, 8, 3);
        Due.is("COST 0", bay.turn(1), 0);
        Due.is("COST 0, again", bay.turn(1), 0);
        Due.is("all turns", bay.count(3), 6);
        WindBay early = new WindBay();
        early.boat(0, 0, true, 0);
        Due.is("at SECOND 0", early.turn(0), 2);
        Due.is("not begun yet", early.boat(0, 0, true, 0), 1);
        early.go(2);
        Due.boat("two SECONDS", early, 0, 0, 0, false, 0, 1);
        early.go(1);
        Due.boat("on", early, 0, -8, 6, false, 0, 1);
    }

    private static void turningAtDist() {
        WindBay bay = new WindBay();
        bay.set(0, 40);
        bay.boat(0, 0, true, 0);
        bay.boat(0, 100, true, 0);
        bay.go(6);
        Due.is("at y 36", bay.turn(1), 2);
        bay.go(1);
        Due.is("at DIST", bay.turn(0), -3);
        Due.is("in a turn", bay.turn(1), -3);
        bay.go(7);
        Due.is("IN", bay.of(0, 5), 14);
        Due.is("IN", bay.turn(0), -3);
        Due.is("turns", bay.of(0, 7), 0);
    }

    private static void inByALesserDist() {
        WindBay bay = new WindBay();
        bay.set(0, 40);
        bay.boat(0, -56, true, 1);
        bay.boat(0, 100, true, 0);
        bay.turn(1);
        bay.go(4);
        Due.is("y of 1", bay.of(1, 2), 12);
        bay.anew();
        Due.law(bay, "0");
        bay.boat(0, -56, true, 0);
        bay.turn(1);
        bay.go(7);
        Due.is("IN", bay.of(2, 5), 7);
        Due.is("beyond all y", bay.set(0, 100), 40);
        Due.is("IN by a DIST that was less", bay.turn(2), -3);
        bay.go(2);
        Due.boat("it stays", bay, 2, 0, 42, true, 0, 0);
        Due.is("it stays IN", bay.of(2, 5), 7);
        Due.is("one is IN", bay.count(2), 1);
    }
}
