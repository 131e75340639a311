/** Boundary cases of promises 25, 26 and 27 (image, restore, count), sentence by sentence. */
public final class EdgesImageTest {
    private static final int MIN = Integer.MIN_VALUE;
    private static final int MAX = Integer.MAX_VALUE;

    public static void main(String[] args) {
        images();
        restores();
        settingsAndLaw();
        boats();
        shelvesAndImage();
        counts();
        Due.end();
    }

    private static WindBay one() {
        WindBay bay = new WindBay();
        bay.set(0, 400);
        bay.boat(0, 0, true, 0);
        return bay;
    }

    private static void images() {
        Due.sentence("25: THE IMAGE is taken: the SECOND", () -> {
            WindBay bay = new WindBay();
            Due.is("without BOATS", bay.image(), 0);
            bay.boat(0, 0, true, 0);
            Due.is("at 0", bay.image(), 0);
            bay.go(1);
            Due.is("at 1", bay.image(), 1);
            bay.go(24);
            Due.is("at 25", bay.image(), 25);
        });
        Due.sentence("25: the SECOND at which it ENDED", () -> {
            WindBay bay = EdgesBoatTest.inAt400();
            bay.go(100);
            Due.is("at 400", bay.image(), 400);
            bay.anew();
            Due.is("restore", bay.restore(), 400);
            Due.is("ENDED", bay.go(1), -3);
        });
        Due.sentence("25: THE IMAGE is taken: in place of the one ahead", () -> {
            WindBay bay = one();
            bay.go(3);
            bay.image();
            bay.go(2);
            bay.image();
            bay.go(9);
            Due.is("restore", bay.restore(), 5);
            Due.boat("at 5", bay, 0, 40, 30, true, 0, 0);
            bay.anew();
            bay.image();
            bay.go(4);
            Due.is("restore", bay.restore(), 0);
        });
        Due.sentence("25: it changes nothing of what is", () -> {
            WindBay bay = one();
            bay.go(3);
            bay.turn(0);
            bay.image();
            Due.boat("as it was", bay, 0, 24, 18, false, 2, 1);
            Due.is("it goes on", bay.go(1), 4);
        });
    }

    private static void restores() {
        Due.sentence("26: -3: there is none", () -> {
            WindBay bay = new WindBay();
            Due.is("at first", bay.restore(), -3);
            bay.boat(0, 0, true, 0);
            bay.go(5);
            Due.is("none taken", bay.restore(), -3);
            Due.is("A refused call changes nothing", bay.count(1), 5);
            Due.boat("as it was", bay, 0, 40, 30, true, 0, 0);
        });
        Due.sentence("26: RESTORED again and again", () -> {
            WindBay bay = one();
            bay.go(3);
            bay.image();
            for (int i = 0; i < 4; i++) {
                bay.go(1 + i);
                bay.turn(0);
                Due.is("restore", bay.restore(), 3);
                Due.boat("at 3", bay, 0, 24, 18, true, 0, 0);
            }
        });
        Due.sentence("26: what goes on behind it leaves THE IMAGE as it is", () -> {
            WindBay bay = one();
            bay.go(3);
            bay.image();
            bay.restore();
            bay.go(4);
            bay.set(1, 2);
            Due.law(bay, "9");
            bay.restore();
            Due.boat("at 3", bay, 0, 24, 18, true, 0, 0);
            Due.is("TIDE", bay.set(1, 0), 0);
            Due.is("WIND", bay.wind(0), 0);
        });
        Due.sentence("26: anew is no end of THE IMAGE", () -> {
            WindBay bay = one();
            bay.go(3);
            bay.image();
            bay.anew();
            Due.is("restore", bay.restore(), 3);
            bay.anew();
            Due.boat("where it began", bay, 0, 0, 0, true, 0, 0);
        });
    }

    private static void settingsAndLaw() {
        Due.sentence("26: all that there is: DIST, TIDE, SHORE, COST, SEED", () -> {
            int[] then = {41, 1, 7, 5, 12};
            int[] later = {400, 3, 200, 9, 999};
            for (int what = 0; what < 5; what++) {
                WindBay bay = new WindBay();
                bay.set(what, then[what]);
                bay.image();
                bay.set(what, later[what]);
                bay.restore();
                Due.is("set(" + what + ")", bay.set(what, then[what]), then[what]);
            }
        });
        Due.sentence("26: all that there is: a DIST that BOATS are beyond now", () -> {
            WindBay bay = new WindBay();
            bay.set(0, 40);
            bay.boat(0, 0, true, 0);
            bay.image();
            bay.set(0, 400);
            bay.go(20);
            Due.is("restore", bay.restore(), 0);
            Due.is("DIST", bay.count(5), 40);
            bay.go(100);
            Due.is("IN", bay.of(0, 5), 14);
        });
        Due.sentence("26: all that there is: the LAW", () -> {
            WindBay bay = new WindBay();
            Due.law(bay, "t+1");
            bay.image();
            Due.law(bay, "7*3");
            Due.is("another one", bay.wind(5), 21);
            bay.restore();
            Due.is("as it was then", bay.wind(5), 6);
            Due.is("as it was then", bay.wind(0), 1);
        });
        Due.sentence("26: all that there is: no LAW told", () -> {
            WindBay bay = new WindBay();
            bay.image();
            Due.law(bay, "7");
            bay.restore();
            Due.is("none", bay.wind(5), 0);
        });
        Due.sentence("26: all that there is: the SEED by which the LAW goes", () -> {
            WindBay bay = new WindBay();
            Due.law(bay, "s");
            bay.set(4, 3);
            bay.image();
            bay.set(4, 30);
            Due.is("another one", bay.wind(0), 30);
            bay.restore();
            Due.is("as it was then", bay.wind(0), 3);
        });
    }

    private static void boats() {
        Due.sentence("26: all that there is: how many BOATS", () -> {
            WindBay bay = one();
            bay.image();
            bay.boat(0, 50, true, 0);
            bay.boat(0, 60, true, 0);
            bay.restore();
            Due.is("BOATS", bay.count(0), 1);
            Due.is("the next to come", bay.boat(6, -9, false, 8), 1);
            Due.boat("the next to come", bay, 1, -9, 0, false, 0, 0);
            Due.is("KIND", bay.of(1, 0), 6);
            Due.is("FIGURE", bay.of(1, 6), 8);
        });
        Due.sentence("26: all that there is: no BOATS, SECOND 0", () -> {
            WindBay bay = new WindBay();
            bay.image();
            bay.boat(0, 0, true, 0);
            bay.go(7);
            Due.is("restore", bay.restore(), 0);
            Due.is("none", bay.count(0), 0);
            Due.is("no go", bay.go(1), -3);
            Due.is("not begun", bay.boat(0, 0, true, 0), 0);
        });
        Due.sentence("26: all that there is: no more of a BOAT that came later, and was in BAD AIR", () -> {
            WindBay bay = new WindBay();
            bay.set(3, 1);
            bay.boat(0, 0, true, 0);
            bay.image();
            bay.boat(0, 8, true, 0);
            bay.turn(1);
            bay.go(1);
            bay.restore();
            Due.is("BOATS in BAD AIR", bay.count(4), 0);
            Due.is("turns", bay.count(3), 0);
            Due.is("IN", bay.count(2), 0);
            Due.is("no PLACE 2", bay.place(2), -4);
        });
        Due.sentence("26: all that there is: BOATS in place of others", () -> {
            WindBay bay = new WindBay();
            bay.image();
            bay.boat(1, 11, true, 5);
            bay.restore();
            bay.boat(4, -22, false, 6);
            bay.image();
            bay.go(1);
            bay.restore();
            Due.is("KIND", bay.of(0, 0), 4);
            Due.is("FIGURE", bay.of(0, 6), 6);
            Due.boat("as it was then", bay, 0, -22, 0, false, 0, 0);
            bay.go(5);
            bay.anew();
            Due.boat("where it began", bay, 0, -22, 0, false, 0, 0);
        });
        Due.sentence("26: all that there is: x, y, ways, turns, a turn that goes on, IN", () -> {
            WindBay bay = new WindBay();
            bay.set(0, 42);
            bay.boat(0, -56, true, 0);
            bay.boat(0, 0, true, 0);
            bay.boat(0, 100, false, 0);
            bay.go(3);
            bay.turn(2);
            bay.go(4);
            bay.set(3, 9);
            bay.turn(2);
            bay.go(3);
            bay.image();
            bay.anew();
            bay.go(3);
            bay.restore();
            Due.is("IN", bay.of(0, 5), 7);
            Due.boat("IN", bay, 0, 0, 42, true, 0, 0);
            Due.boat("at DIST", bay, 1, 32, 42, true, 0, 0);
            Due.is("not IN", bay.of(1, 5), -4);
            Due.boat("in a turn", bay, 2, 92, 30, false, 6, 2);
            Due.is("turns", bay.count(3), 2);
            bay.go(6);
            Due.boat("the turn by", bay, 2, 92, 30, false, 0, 2);
            Due.is("IN", bay.of(1, 5), 14);
        });
    }

    private static void shelvesAndImage() {
        Due.sentence("26: but SHELVES", () -> {
            WindBay bay = new WindBay();
            bay.boat(5, 0, true, 1);
            Due.ints(bay, 0, 1, 2, 3);
            bay.keep(2, 1, 0);
            bay.image();
            bay.put(0, 0, 9);
            bay.row(1, 1, 2);
            bay.keep(2, 0, 0);
            bay.restore();
            Due.is("what was put later", bay.element(0, 0), 9);
            Due.is("what came later", bay.element(1, 1), 0);
            Due.is("what was given up later", bay.skill(2), -1000000011);
        });
        Due.sentence("26: but .. (and THE IMAGE)", () -> {
            WindBay bay = one();
            bay.go(2);
            bay.image();
            bay.go(2);
            bay.image();
            bay.restore();
            Due.is("no image of an image", bay.restore(), 4);
        });
        Due.sentence("26: a sailor kept of a BOAT that isn't there then", () -> {
            WindBay bay = new WindBay();
            bay.image();
            bay.boat(3, 0, true, 7);
            bay.keep(0, 1, 0);
            bay.restore();
            Due.is("no BOAT", bay.keep(1, 1, 0), -1);
            Due.is("its sailor", bay.skill(0), 26);
            Due.is("its sailor", bay.toss(0), 100);
            bay.boat(2, 0, true, 0);
            Due.is("still", bay.skill(0), 26);
            Due.is("still", bay.toss(0), 100);
        });
    }

    private static void counts() {
        Due.sentence("27: -1 for others", () -> {
            WindBay bay = new WindBay();
            Due.all("count", bay::count, -1, -1, 6, 7, MIN, MAX);
            WindBay begun = one();
            begun.go(1);
            Due.all("count", begun::count, -1, -1, 6, MIN, MAX);
        });
        Due.sentence("27: all 0 at first but DIST", () -> {
            WindBay bay = new WindBay();
            Due.all("count", bay::count, 0, 0, 1, 2, 3, 4);
            Due.is("DIST", bay.count(5), 200);
        });
        Due.sentence("27: 0 BOATS: up to 4", () -> {
            WindBay bay = new WindBay();
            for (int i = 1; i <= 5; i++) {
                bay.boat(0, 0, true, 0);
                Due.is("BOATS", bay.count(0), Math.min(4, i));
            }
        });
        Due.sentence("27: 1 the SECOND: 0 .. 400", () -> {
            WindBay bay = EdgesBoatTest.inAt400();
            Due.is("397", bay.count(1), 397);
            bay.go(100);
            Due.is("400", bay.count(1), 400);
            bay.anew();
            Due.is("0", bay.count(1), 0);
        });
        Due.sentence("27: 2 BOATS that are IN: by a DIST that was less, too", () -> {
            WindBay bay = new WindBay();
            bay.set(0, 42);
            for (int i = 0; i < 4; i++) {
                bay.boat(0, i == 3 ? 0 : -56 + 200 * (i % 2), i % 2 == 0 || i == 3, 0);
            }
            bay.go(6);
            Due.is("none yet", bay.count(2), 0);
            bay.go(1);
            Due.is("two", bay.count(2), 2);
            bay.set(0, 43);
            Due.is("two", bay.count(2), 2);
        });
        Due.sentence("27: 3 all turns: told ones and others, of all BOATS, of those IN, too", () -> {
            WindBay bay = new WindBay();
            bay.set(0, 42);
            bay.set(3, 0);
            bay.boat(0, -40, true, 1);
            bay.boat(0, 192, true, 0);
            bay.turn(0);
            bay.turn(0);
            Due.is("told", bay.count(3), 2);
            bay.go(1);
            Due.is("at 200", bay.count(3), 3);
            bay.go(4);
            Due.is("a TURN's at 5", bay.count(3), 4);
            bay.go(3);
            Due.is("at DIST", bay.of(0, 2), 42);
            Due.is("still", bay.count(3), 4);
            bay.go(100);
            Due.is("IN", bay.count(2), 2);
            Due.is("of those IN", bay.count(3), 4);
            bay.anew();
            Due.is("anew", bay.count(3), 0);
        });
        Due.sentence("27: 4 BOATS in BAD AIR: 0 to 3", () -> {
            for (int behind = 0; behind < 4; behind++) {
                WindBay bay = new WindBay();
                bay.set(3, 1);
                bay.boat(0, 0, true, 0);
                for (int i = 1; i < 4; i++) {
                    bay.boat(0, i <= behind ? 8 + i : 50 * i, true, 0);
                    bay.turn(i);
                }
                bay.go(1);
                Due.is("behind: " + behind, bay.count(4), behind);
            }
            WindBay apart = new WindBay();
            apart.set(3, 1);
            apart.boat(0, 0, true, 0);
            int[] xs = {14, 15, 2};
            for (int i = 0; i < 3; i++) {
                apart.boat(0, xs[i], true, 0);
                apart.turn(1 + i);
            }
            Due.is("level", apart.count(4), 0);
            apart.go(1);
            Due.is("6, 7 and 6 off", apart.count(4), 2);
        });
        Due.sentence("27: 5 DIST: 40 .. 400", () -> {
            WindBay bay = new WindBay();
            bay.set(0, 40);
            Due.is("DIST", bay.count(5), 40);
            bay.set(0, 400);
            Due.is("DIST", bay.count(5), 400);
            bay.set(0, 401);
            Due.is("refused", bay.count(5), 400);
        });
    }
}
