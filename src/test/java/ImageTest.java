/** Promises 25, 26, 27: image, restore, count. */
public final class ImageTest {
    public static void main(String[] args) {
        noImage();
        allThatThereIs();
        boatsThatCameLater();
        imageStays();
        counts();
        Due.end();
    }

    private static void noImage() {
        WindBay bay = new WindBay();
        Due.is("none", bay.restore(), -3);
        bay.boat(0, 0, true, 0);
        bay.go(3);
        Due.is("none", bay.restore(), -3);
        Due.is("refused", bay.count(1), 3);
    }

    private static void allThatThereIs() {
        WindBay bay = new WindBay();
        Due.law(bay, "t+s");
        bay.set(0, 60);
        bay.set(1, 1);
        bay.set(2, 50);
        bay.set(3, 4);
        bay.set(4, 3);
        bay.boat(0, -40, true, 3);
        bay.boat(2, 30, false, 2);
        bay.go(4);
        bay.turn(1);
        int[] told = all(bay);
        bay.row(0, 2, 1);
        Due.is("image", bay.image(), 4);
        Due.law(bay, "0-t");
        bay.set(1, 3);
        bay.set(2, 0);
        bay.set(3, 9);
        bay.set(4, 999);
        bay.go(100);
        bay.go(100);
        bay.set(0, 400);
        bay.keep(0, 1, 1);
        Due.is("skill", bay.skill(0), 13);
        Due.is("restore", bay.restore(), 4);
        int[] again = all(bay);
        for (int i = 0; i < told.length; i++) {
            Due.is("as it was then, " + i, again[i], told[i]);
        }
        Due.is("SHELVES are not in THE IMAGE", bay.skill(0), 13);
        Due.is("DIST", bay.set(0, 60), 60);
        Due.is("TIDE", bay.set(1, 1), 1);
        Due.is("SHORE", bay.set(2, 50), 50);
        Due.is("COST", bay.set(3, 4), 4);
        Due.is("SEED", bay.set(4, 3), 3);
        Due.is("LAW", bay.wind(5), 8);
        bay.anew();
        Due.boat("where they began", bay, 0, -40, 0, true, 0, 0);
        Due.boat("where they began", bay, 1, 30, 0, false, 0, 0);
    }

    private static int[] all(WindBay bay) {
        int[] all = new int[30];
        for (int i = 0; i < 2; i++) {
            for (int what = 0; what < 8; what++) {
                all[8 * i + what] = bay.of(i, what);
            }
            all[16 + i] = bay.badAir(i);
            all[18 + i] = bay.ends(i);
        }
        for (int i = 0; i < 6; i++) {
            all[20 + i] = bay.count(i);
        }
        all[26] = bay.wind(10);
        all[27] = bay.wind(30);
        all[28] = bay.best(0, true, 1);
        all[29] = bay.best(0, true, 0);
        return all;
    }

    private static void boatsThatCameLater() {
        WindBay bay = new WindBay();
        bay.boat(1, 10, true, 7);
        Due.is("image", bay.image(), 0);
        bay.boat(6, 20, false, 9);
        bay.keep(5, 1, 1);
        Due.is("restore", bay.restore(), 0);
        Due.is("one BOAT", bay.count(0), 1);
        Due.is("the other isn't there", bay.of(1, 0), -1000000001);
        Due.is("its sailor is", bay.skill(5), 24);
        Due.is("another BOAT 1", bay.boat(3, -30, true, 1), 1);
        Due.is("the sailor of the one that was", bay.skill(5), 24);
        Due.is("the sailor of the one that was", bay.toss(5), 224);
        Due.is("KIND", bay.of(1, 0), 3);
        WindBay empty = new WindBay();
        empty.image();
        empty.boat(0, 0, true, 0);
        empty.go(10);
        Due.is("restore", empty.restore(), 0);
        Due.is("no BOATS", empty.count(0), 0);
        Due.is("not begun", empty.boat(0, 0, true, 0), 0);
    }

    private static void imageStays() {
        WindBay bay = new WindBay();
        bay.boat(0, 0, true, 1);
        bay.go(7);
        bay.image();
        bay.go(10);
        Due.is("restore", bay.restore(), 7);
        bay.go(20);
        bay.turn(0);
        Due.is("restored again", bay.restore(), 7);
        Due.boat("at 7", bay, 0, 40, 30, false, 0, 1);
        bay.go(1);
        Due.is("another image", bay.image(), 8);
        bay.anew();
        Due.is("the later one", bay.restore(), 8);
        Due.boat("at 8", bay, 0, 32, 36, false, 0, 1);
        WindBay in = new WindBay();
        in.set(0, 42);
        in.boat(0, -56, true, 0);
        in.boat(0, 0, true, 0);
        in.go(8);
        in.image();
        in.anew();
        in.restore();
        Due.is("IN at", in.of(0, 5), 7);
        Due.is("not IN", in.of(1, 5), -4);
    }

    private static void counts() {
        WindBay bay = new WindBay();
        bay.set(0, 42);
        bay.set(3, 1);
        bay.boat(0, -56, true, 0);
        bay.boat(0, 100, true, 0);
        bay.boat(0, 110, false, 0);
        bay.turn(2);
        bay.turn(1);
        bay.go(1);
        bay.turn(1);
        bay.go(1);
        Due.is("BOATS", bay.count(0), 3);
        Due.is("SECOND", bay.count(1), 2);
        Due.is("IN", bay.count(2), 0);
        Due.is("turns", bay.count(3), 3);
        bay.go(5);
        Due.is("SECOND", bay.count(1), 7);
        Due.is("IN", bay.count(2), 1);
        Due.is("DIST", bay.count(5), 42);
        Due.is("below", bay.count(-1), -1);
        Due.is("beyond", bay.count(6), -1);
        Due.is("far beyond", bay.count(Integer.MAX_VALUE), -1);
        Due.is("far below", bay.count(Integer.MIN_VALUE), -1);
        WindBay air = new WindBay();
        air.set(3, 1);
        air.boat(0, 0, true, 0);
        air.boat(0, 10, false, 0);
        air.boat(0, 12, false, 0);
        air.boat(0, 100, false, 0);
        air.turn(1);
        air.turn(2);
        Due.is("none in BAD AIR", air.count(4), 0);
        air.go(1);
        Due.is("two in BAD AIR", air.count(4), 2);
    }
}
