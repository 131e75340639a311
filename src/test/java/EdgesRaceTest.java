/** Boundary cases of promises 9, 11, 12 and 13 (go, anew, place, ends), sentence by sentence. */
public final class EdgesRaceTest {
    private static final int MIN = Integer.MIN_VALUE;
    private static final int MAX = Integer.MAX_VALUE;

    public static void main(String[] args) {
        goes();
        ended();
        anew();
        placeNumbers();
        placesOfThoseIn();
        placesOfOthers();
        endsInMind();
        Due.end();
    }

    private static WindBay one() {
        WindBay bay = new WindBay();
        bay.set(0, 400);
        bay.boat(0, 0, true, 0);
        return bay;
    }

    /** Two BOATS, IN at SECONDS 7 and 14. */
    private static WindBay two() {
        WindBay bay = new WindBay();
        bay.set(0, 42);
        bay.boat(0, 0, true, 0);
        bay.boat(0, -56, true, 0);
        return bay;
    }

    private static void goes() {
        Due.sentence("9: -1: n SECONDS (1 .. 100)", () -> {
            WindBay bay = one();
            Due.all("go", bay::go, -1, 0, -1, 101, MIN, MAX);
            Due.is("SECOND", bay.count(1), 0);
            Due.is("go(1)", bay.go(1), 1);
            Due.is("go(2)", bay.go(2), 3);
        });
        Due.sentence("9: n SECONDS: 100 at once", () -> {
            WindBay bay = EdgesRaceTest.slow();
            Due.is("go(100)", bay.go(100), 100);
            Due.is("go(99)", bay.go(99), 199);
            Due.is("go(100)", bay.go(100), 299);
        });
        Due.sentence("9: -3: no BOATS", () -> {
            WindBay bay = new WindBay();
            Due.is("go(1)", bay.go(1), -3);
            Due.is("go(100)", bay.go(100), -3);
            Due.is("SECOND", bay.count(1), 0);
            bay.boat(0, 0, true, 0);
            Due.is("one", bay.go(1), 1);
        });
        Due.sentence("9: of several refusals the first one: -1 ahead of -3", () -> {
            WindBay bay = new WindBay();
            Due.all("go without BOATS", bay::go, -1, 0, 101);
            WindBay ended = two();
            ended.go(100);
            Due.all("go once it ENDED", ended::go, -1, 0, 101);
        });
        Due.sentence("9: A refused call changes nothing", () -> {
            WindBay bay = one();
            bay.go(3);
            bay.go(0);
            bay.go(101);
            Due.boat("as it was", bay, 0, 24, 18, true, 0, 0);
            Due.is("SECOND", bay.count(1), 3);
            WindBay ended = two();
            ended.go(100);
            ended.go(1);
            Due.is("SECOND", ended.count(1), 14);
            Due.is("IN", ended.of(1, 5), 7);
        });
    }

    /** A BOAT that never comes to DIST: it turns at 10, 20, .. for 9 SECONDS. */
    private static WindBay slow() {
        WindBay bay = new WindBay();
        bay.set(1, 3);
        bay.set(3, 9);
        bay.boat(0, 0, true, 2);
        return bay;
    }

    private static void ended() {
        Due.sentence("9: It ENDS at SECOND 400", () -> {
            WindBay bay = slow();
            bay.go(100);
            bay.go(100);
            bay.go(100);
            Due.is("399", bay.go(99), 399);
            Due.is("one more, of 100", bay.go(100), 400);
            Due.is("-3: it ENDED", bay.go(1), -3);
            Due.is("not IN", bay.count(2), 0);
            Due.is("SECOND", bay.count(1), 400);
        });
        Due.sentence("9: .. or as all are IN", () -> {
            WindBay bay = two();
            Due.is("one is IN", bay.go(13), 13);
            Due.is("IN", bay.count(2), 1);
            Due.is("all are IN", bay.go(1), 14);
            Due.is("IN", bay.count(2), 2);
            Due.is("-3: it ENDED", bay.go(1), -3);
        });
        Due.sentence("9: the SECOND: that at which it ENDED, if it did ahead of n", () -> {
            WindBay bay = two();
            Due.is("go(100)", bay.go(100), 14);
            Due.is("SECOND", bay.count(1), 14);
            WindBay alone = new WindBay();
            alone.set(0, 42);
            alone.boat(0, -56, true, 0);
            Due.is("go(7)", alone.go(7), 7);
            Due.is("ENDED", alone.go(7), -3);
        });
        Due.sentence("9: all of four are IN", () -> {
            WindBay bay = two();
            bay.boat(0, -64, true, 0);
            bay.boat(0, 16, true, 0);
            Due.is("go(15)", bay.go(15), 15);
            Due.is("IN", bay.count(2), 3);
            Due.is("go(100)", bay.go(100), 16);
            Due.is("IN", bay.count(2), 4);
        });
        Due.sentence("9: all are IN, and more DIST then changes nothing in that", () -> {
            WindBay bay = two();
            bay.go(100);
            bay.set(0, 400);
            Due.is("-3: it ENDED", bay.go(1), -3);
            Due.is("IN", bay.count(2), 2);
        });
    }

    private static void anew() {
        Due.sentence("11: how many BOATS: none", () -> {
            WindBay bay = new WindBay();
            Due.is("anew", bay.anew(), 0);
            Due.is("again", bay.anew(), 0);
        });
        Due.sentence("11: how many BOATS: four", () -> {
            WindBay bay = new WindBay();
            for (int i = 0; i < 4; i++) {
                bay.boat(0, i, true, 0);
                Due.is("anew", bay.anew(), i + 1);
            }
        });
        Due.sentence("11: The RACE begins anew (BOATS where they began)", () -> {
            WindBay bay = new WindBay();
            bay.boat(1, -200, false, 40);
            bay.boat(7, 200, true, 0);
            bay.go(9);
            bay.turn(0);
            Due.is("anew", bay.anew(), 2);
            Due.is("SECOND", bay.count(1), 0);
            Due.is("turns", bay.count(3), 0);
            Due.boat("where it began", bay, 0, -200, 0, false, 0, 0);
            Due.boat("where it began", bay, 1, 200, 0, true, 0, 0);
            Due.is("FIGURE", bay.of(0, 6), 40);
        });
        Due.sentence("11: .. once it ENDED as all were IN", () -> {
            WindBay bay = two();
            bay.go(100);
            Due.is("anew", bay.anew(), 2);
            Due.is("IN", bay.count(2), 0);
            Due.is("not IN", bay.of(0, 5), -4);
            Due.is("it goes again", bay.go(100), 14);
        });
        Due.sentence("11: .. once it ENDED at 400", () -> {
            WindBay bay = slow();
            for (int i = 0; i < 4; i++) {
                bay.go(100);
            }
            Due.is("ENDED", bay.go(1), -3);
            Due.is("anew", bay.anew(), 1);
            Due.is("it goes again", bay.go(1), 1);
            Due.boat("it goes again", bay, 0, 8, 3, true, 0, 0);
        });
        Due.sentence("11: .. and nothing else does", () -> {
            WindBay bay = one();
            int[] told = {40, 1, 7, 5, 12};
            for (int what = 0; what < 5; what++) {
                bay.set(what, told[what]);
            }
            Due.law(bay, "s+1");
            bay.image();
            bay.go(7);
            bay.keep(0, 1, 0);
            bay.anew();
            for (int what = 0; what < 5; what++) {
                Due.is("set(" + what + ")", bay.set(what, told[what]), told[what]);
            }
            Due.is("WIND", bay.wind(0), 13);
            Due.is("SHELF 0", bay.skill(0), 10);
            Due.is("SHELF 7", bay.fault(7), -4);
            Due.is("THE IMAGE", bay.restore(), 0);
        });
        Due.sentence("11: .. in a turn told at SECOND 0", () -> {
            WindBay bay = one();
            bay.turn(0);
            bay.anew();
            Due.boat("where it began", bay, 0, 0, 0, true, 0, 0);
            Due.is("it may turn", bay.turn(0), 2);
        });
    }

    private static void placeNumbers() {
        Due.sentence("12: -1 (1 ..)", () -> {
            Due.all("place of none", new WindBay()::place, -1, 0, -1, MIN);
            Due.all("place of two", two()::place, -1, 0, -1, MIN);
        });
        Due.sentence("12: -4: none", () -> {
            Due.all("place of none", new WindBay()::place, -4, 1, 2, 4, 5, MAX);
            WindBay bay = two();
            Due.all("place of two", bay::place, -4, 3, 4, 5, 100, MAX);
            Due.is("place(2)", bay.place(2), 1);
            bay.boat(0, 200, true, 0);
            bay.boat(0, 180, true, 0);
            Due.all("place of four", bay::place, -4, 5, MAX);
            Due.is("place(4)", bay.place(4), 2);
        });
    }

    private static void placesOfThoseIn() {
        Due.sentence("12: who is IN earlier is ahead", () -> {
            WindBay bay = two();
            bay.go(100);
            Due.is("IN at 7", bay.place(1), 1);
            Due.is("IN at 14", bay.place(2), 0);
            WindBay near = new WindBay();
            near.set(0, 42);
            near.boat(0, 64, false, 0);
            near.boat(0, -56, true, 0);
            near.go(100);
            Due.is("IN", near.of(0, 5), 8);
            Due.is("IN at 7", near.place(1), 1);
            Due.is("IN at 8", near.place(2), 0);
        });
        Due.sentence("12: who is IN is ahead of others, whatever their y", () -> {
            WindBay bay = new WindBay();
            bay.set(0, 40);
            bay.set(3, 1);
            Due.law(bay, "0-35-t/3*5");
            bay.boat(0, -12, true, 0);
            bay.boat(0, -24, false, 0);
            bay.turn(1);
            bay.go(4);
            Due.boat("not IN", bay, 0, 20, 53, true, 0, 0);
            Due.boat("IN", bay, 1, 0, 40, true, 0, 1);
            Due.is("IN", bay.of(1, 5), 4);
            Due.is("ahead", bay.place(1), 1);
            Due.is("behind, by y 53 less 10", bay.place(2), 0);
        });
        Due.sentence("12: of like ones who has more y .. (IN in one SECOND)", () -> {
            for (int more = 0; more < 2; more++) {
                WindBay bay = new WindBay();
                bay.set(0, 40);
                Due.law(bay, "5");
                for (int i = 0; i < 2; i++) {
                    bay.boat(0, i == more ? 64 : -64, i != more, 0);
                }
                bay.go(8);
                Due.is("IN", bay.count(2), 2);
                Due.is("y, LEFT", bay.of(more, 2), 42);
                Due.is("y, RIGHT", bay.of(1 - more, 2), 40);
                Due.is("ahead", bay.place(1), more);
                Due.is("behind", bay.place(2), 1 - more);
            }
        });
        Due.sentence("12: of like ones the lesser number (IN in one SECOND, of like y)", () -> {
            WindBay bay = new WindBay();
            bay.set(0, 42);
            for (int i = 0; i < 4; i++) {
                bay.boat(0, i % 2 == 0 ? 56 : -56, i % 2 == 1, 0);
            }
            bay.go(100);
            Due.is("IN", bay.count(2), 4);
            for (int i = 0; i < 4; i++) {
                Due.is("place", bay.place(i + 1), i);
            }
        });
    }

    private static void placesOfOthers() {
        Due.sentence("12: y less how far it is from x 0 by 2, cut", () -> {
            ahead(100, 101, 0);
            ahead(101, 100, 0);
            ahead(101, 102, 0);
            ahead(102, 101, 1);
            ahead(102, 100, 1);
            ahead(1, 0, 0);
            ahead(2, 1, 1);
            ahead(2, 0, 1);
        });
        Due.sentence("12: how far it is from x 0, both ways", () -> {
            ahead(-100, 101, 0);
            ahead(-101, 100, 0);
            ahead(-102, 101, 1);
            ahead(-101, -100, 0);
            ahead(-102, -101, 1);
            ahead(-1, 0, 0);
            ahead(200, -199, 1);
            ahead(-200, 200, 0);
        });
        Due.sentence("12: more y by 1 is 2 in x", () -> {
            int[][] xs = {{110, 108, 0}, {112, 108, 1}, {112, 109, 1}, {111, 108, 0}};
            for (int[] x : xs) {
                WindBay bay = new WindBay();
                bay.set(1, 1);
                bay.set(2, 109);
                // BOAT 0 beyond SHORE gains 6, BOAT 1 within it 5; both go 8 farther
                bay.boat(0, x[0], true, 0);
                bay.boat(0, x[1], true, 0);
                bay.go(1);
                Due.is("y of 0", bay.of(0, 2), 6);
                Due.is("y of 1", bay.of(1, 2), 5);
                Due.is("ahead of " + x[0] + ", " + x[1], bay.place(1), x[2]);
            }
        });
        Due.sentence("12: of like ones the lesser number", () -> {
            WindBay bay = new WindBay();
            bay.boat(0, 7, true, 0);
            bay.boat(0, -7, true, 0);
            bay.boat(0, 6, false, 0);
            bay.boat(0, -6, false, 0);
            for (int i = 0; i < 4; i++) {
                Due.is("place", bay.place(i + 1), i);
            }
        });
    }

    /** Of two BOATS at y 0 and these x the one that is ahead. */
    private static void ahead(int x, int other, int due) {
        WindBay bay = new WindBay();
        bay.boat(0, x, true, 0);
        bay.boat(0, other, true, 0);
        Due.is("place(1) of " + x + ", " + other, bay.place(1), due);
        Due.is("place(2) of " + x + ", " + other, bay.place(2), 1 - due);
    }

    private static void endsInMind() {
        Due.sentence("13: -1", () -> {
            Due.all("ends of none", new WindBay()::ends, -1, 0, 1, -1, MIN, MAX);
            WindBay bay = two();
            Due.all("ends of two", bay::ends, -1, 2, 3, 4, -1, MIN, MAX);
            Due.is("ends(1)", bay.ends(1), 1);
        });
        Due.sentence("13: at the end of the RACE", () -> {
            WindBay bay = two();
            bay.boat(0, 50, false, 0);
            Due.is("BOAT 0, IN at 14", bay.ends(0), 3);
            Due.is("BOAT 1, IN at 7", bay.ends(1), 1);
            Due.is("BOAT 2, IN at 8", bay.ends(2), 2);
            Due.is("BOAT 0 is ahead now", bay.place(1), 0);
        });
        Due.sentence("13: .. that ENDS at 400", () -> {
            WindBay bay = slow();
            bay.boat(0, 200, false, 0);
            Due.is("never IN", bay.ends(0), 2);
            Due.is("IN", bay.ends(1), 1);
        });
        Due.sentence("13: .. once it ENDED: as it is", () -> {
            WindBay bay = two();
            bay.go(100);
            Due.is("BOAT 0", bay.ends(0), 2);
            Due.is("BOAT 1", bay.ends(1), 1);
        });
        Due.sentence("13: (in mind): nothing is changed", () -> {
            WindBay bay = two();
            bay.go(3);
            bay.turn(0);
            bay.ends(0);
            bay.ends(1);
            Due.is("SECOND", bay.count(1), 3);
            Due.boat("as it was", bay, 0, 24, 18, false, 2, 1);
            Due.boat("as it was", bay, 1, -32, 18, true, 0, 0);
            Due.is("IN", bay.count(2), 0);
        });
        Due.sentence("13: PLACES of each of four, 1 .. 4", () -> {
            WindBay bay = new WindBay();
            bay.set(0, 42);
            int[] xs = {100, -56, 50, 0};
            int[] due = {4, 1, 3, 2};
            for (int x : xs) {
                bay.boat(0, x, true, 0);
            }
            for (int i = 0; i < 4; i++) {
                Due.is("ends(" + i + ")", bay.ends(i), due[i]);
            }
        });
    }
}
