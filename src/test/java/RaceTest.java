/** Promises 9, 11, 12, 13: go, anew, place, ends. */
public final class RaceTest {
    public static void main(String[] args) {
        goes();
        endsAt400();
        endsAsAllAreIn();
        beginsAnew();
        places();
        placesOfLikeOnes();
        placesAtTheEnd();
        Due.end();
    }

    private static void goes() {
        WindBay bay = new WindBay();
        Due.is("no BOATS", bay.go(1), -3);
        Due.is("wrong ahead of no BOATS", bay.go(0), -1);
        bay.boat(0, 0, true, 0);
        Due.is("go(0)", bay.go(0), -1);
        Due.is("go(-1)", bay.go(-1), -1);
        Due.is("go(101)", bay.go(101), -1);
        Due.is("go(MAX)", bay.go(Integer.MAX_VALUE), -1);
        Due.is("go(MIN)", bay.go(Integer.MIN_VALUE), -1);
        Due.is("SECOND", bay.count(1), 0);
        Due.is("go(1)", bay.go(1), 1);
        Due.is("go(2)", bay.go(2), 3);
        Due.is("SECOND", bay.count(1), 3);
        Due.is("x", bay.of(0, 1), 24);
    }

    /** Turning all the time it never comes to DIST. */
    private static void neverIn(WindBay bay) {
        bay.set(1, 3);
        bay.set(3, 9);
        bay.boat(0, 0, true, 2);
    }

    private static void endsAt400() {
        WindBay bay = new WindBay();
        neverIn(bay);
        Due.is("100", bay.go(100), 100);
        Due.is("200", bay.go(100), 200);
        Due.is("300", bay.go(100), 300);
        Due.is("399", bay.go(99), 399);
        Due.is("400", bay.go(100), 400);
        Due.is("it ENDED", bay.go(1), -3);
        Due.is("wrong ahead of ENDED", bay.go(0), -1);
        Due.is("not IN", bay.of(0, 5), -4);
        Due.is("IN", bay.count(2), 0);
        Due.is("turns", bay.of(0, 7), 40);
        Due.is("place", bay.place(1), 0);
        Due.is("ends", bay.ends(0), 1);
        Due.is("begun", bay.boat(0, 0, true, 0), -3);
    }

    private static void endsAsAllAreIn() {
        WindBay bay = new WindBay();
        bay.set(0, 42);
        bay.boat(0, -56, true, 0);
        bay.boat(0, 0, true, 0);
        Due.is("one is IN", bay.go(13), 13);
        Due.is("one is IN", bay.count(2), 1);
        Due.is("all are IN", bay.go(100), 14);
        Due.is("all are IN", bay.count(2), 2);
        Due.is("it ENDED", bay.go(100), -3);
        Due.is("IN at", bay.of(0, 5), 7);
        Due.is("IN at", bay.of(1, 5), 14);
    }

    private static void beginsAnew() {
        WindBay bay = new WindBay();
        Due.is("no BOATS", bay.anew(), 0);
        bay.set(0, 42);
        bay.set(1, 1);
        bay.set(4, 5);
        bay.boat(5, -56, true, 3);
        bay.boat(0, 30, false, 1);
        bay.turn(1);
        bay.go(100);
        Due.is("anew", bay.anew(), 2);
        Due.is("SECOND", bay.count(1), 0);
        Due.is("IN", bay.count(2), 0);
        Due.is("turns", bay.count(3), 0);
        Due.boat("anew", bay, 0, -56, 0, true, 0, 0);
        Due.boat("anew", bay, 1, 30, 0, false, 0, 0);
        Due.is("IN", bay.of(0, 5), -4);
        Due.is("KIND", bay.of(0, 0), 5);
        Due.is("FIGURE", bay.of(0, 6), 3);
        Due.is("DIST", bay.set(0, 200), 42);
        Due.is("TIDE", bay.set(1, 0), 1);
        Due.is("SEED", bay.set(4, 0), 5);
        Due.is("another BOAT", bay.boat(1, 0, true, 0), 2);
        bay.turn(2);
        Due.is("anew at SECOND 0", bay.anew(), 3);
        Due.boat("anew", bay, 2, 0, 0, true, 0, 0);
    }

    private static void places() {
        WindBay bay = new WindBay();
        Due.is("place(0)", bay.place(0), -1);
        Due.is("place(-1)", bay.place(-1), -1);
        Due.is("place(MIN)", bay.place(Integer.MIN_VALUE), -1);
        Due.is("place(1) of none", bay.place(1), -4);
        Due.is("ends of none", bay.ends(0), -1);
        bay.boat(0, 101, false, 0);
        bay.boat(0, -100, true, 0);
        bay.boat(0, 102, true, 0);
        Due.is("of like ones the lesser number", bay.place(1), 0);
        Due.is("100 and 101 by 2, cut", bay.place(2), 1);
        Due.is("102 by 2", bay.place(3), 2);
        Due.is("place(4) of three", bay.place(4), -4);
        Due.is("place(MAX)", bay.place(Integer.MAX_VALUE), -4);
        bay.go(1);
        Due.is("x 93", bay.place(1), 0);
        Due.is("x -92", bay.of(1, 1), -92);
        bay.turn(0);
        bay.go(2);
        Due.is("y is less now", bay.place(1), 1);
        Due.is("y is less now", bay.place(2), 0);
        Due.is("farther off", bay.place(3), 2);
        Due.is("ends below", bay.ends(-1), -1);
        Due.is("ends beyond", bay.ends(3), -1);
        Due.is("ends far beyond", bay.ends(Integer.MAX_VALUE), -1);
    }

    private static void placesOfLikeOnes() {
        WindBay bay = new WindBay();
        bay.set(0, 42);
        bay.set(3, 1);
        bay.boat(0, 100, true, 0);
        bay.boat(0, -56, true, 0);
        bay.boat(0, 56, false, 0);
        bay.boat(0, 16, true, 0);
        bay.go(7);
        Due.is("IN at one SECOND: the lesser number", bay.place(1), 1);
        Due.is("IN at one SECOND: the lesser number", bay.place(2), 2);
        Due.is("of others by y and x", bay.place(3), 3);
        Due.is("of others by y and x", bay.place(4), 0);
        bay.anew();
        Due.law(bay, "0-10");
        bay.go(7);
        Due.is("y of 1", bay.of(1, 2), 48);
        Due.is("y of 2", bay.of(2, 2), 28);
        Due.is("IN at", bay.of(1, 5), 7);
        WindBay like = new WindBay();
        like.set(0, 40);
        Due.law(like, "5");
        like.boat(0, -64, true, 0);
        like.boat(0, 64, false, 0);
        like.go(8);
        Due.is("y of 0", like.of(0, 2), 40);
        Due.is("y of 1", like.of(1, 2), 42);
        Due.is("IN at", like.of(0, 5), 8);
        Due.is("IN at", like.of(1, 5), 8);
        Due.is("of like ones by y", like.place(1), 1);
        Due.is("of like ones by y", like.ends(0), 2);
    }

    private static void placesAtTheEnd() {
        WindBay bay = new WindBay();
        Due.law(bay, "t%40-20+s");
        bay.boat(0, 0, true, 2);
        bay.boat(1, 4, false, 5);
        bay.boat(2, -6, true, 0);
        bay.boat(6, 20, false, 0);
        for (int second = 0; second < 3; second++) {
            int[] ends = new int[4];
            for (int i = 0; i < 4; i++) {
                ends[i] = bay.ends(i);
                Due.is("ends is in mind", bay.count(1), second * 10);
            }
            bay.image();
            int last = 0;
            for (int i = 0; i < 4; i++) {
                last = Math.max(last, bay.go(100));
            }
            for (int i = 0; i < 4; i++) {
                Due.is("at the end, from " + second * 10, bay.place(ends[i]), i);
                Due.is("once it ENDED, " + last, bay.ends(i), ends[i]);
            }
            bay.restore();
            bay.go(10);
        }
        WindBay late = new WindBay();
        late.set(0, 42);
        late.boat(0, 0, true, 0);
        late.boat(0, -50, true, 0);
        Due.is("ahead now", late.place(1), 0);
        Due.is("behind at the end", late.ends(0), 2);
        Due.is("ahead at the end", late.ends(1), 1);
    }
}
