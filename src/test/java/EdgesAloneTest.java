/** Boundary cases of promises 14, 15 and 16 (tacks, best, sides), sentence by sentence. */
public final class EdgesAloneTest {
    private static final int MIN = Integer.MIN_VALUE;
    private static final int MAX = Integer.MAX_VALUE;

    public static void main(String[] args) {
        tacksRefused();
        tacksByBits();
        tacksWhereNoneAre();
        tacksTillIn();
        tacksAlone();
        noOthers();
        best();
        bestByLateTurns();
        sides();
        sidesFrom();
        Due.end();
    }

    private static void tacksRefused() {
        Due.sentence("14: -1: x -200 .. 200", () -> {
            WindBay bay = new WindBay();
            bay.set(0, 40);
            Due.all("x", x -> bay.tacks(x, true, 0), -1, -201, 201, MIN, MAX);
            Due.is("x -200, RIGHT: at DIST at 7, x -144", bay.tacks(-200, true, 0), 25);
            Due.is("x 200, LEFT", bay.tacks(200, false, 0), 25);
            Due.is("x 200, RIGHT: out at 1, at DIST at 9, x 152", bay.tacks(200, true, 0), 28);
            Due.is("x -200, LEFT", bay.tacks(-200, false, 0), 28);
        });
        Due.sentence("14: -1 (bits 0 .. 255)", () -> {
            WindBay bay = new WindBay();
            Due.all("bits", bits -> bay.tacks(0, true, bits), -1, -1, 256, -256, MIN, MAX);
            bay.set(0, 42);
            Due.is("bits 0", bay.tacks(-56, true, 0), 7);
            Due.is("bits 255", bay.tacks(-56, true, 255), 7);
        });
        Due.sentence("14: a refused call and others change nothing", () -> {
            WindBay bay = new WindBay();
            bay.tacks(0, true, 256);
            bay.tacks(0, true, 255);
            Due.is("BOATS", bay.count(0), 0);
            Due.is("SECOND", bay.count(1), 0);
        });
    }

    private static void tacksByBits() {
        Due.sentence("14: at SECONDS 10, 20, .. (bit 0 at 10) it turns, if the bit is 1", () -> {
            WindBay bay = new WindBay();
            bay.set(0, 400);
            // 67 SECONDS beside turns to DIST, and 8 a SECOND back from where it is then
            Due.is("no bit: out at 25; x -136 at 69", bay.tacks(0, true, 0), 86);
            Due.is("bit 0: out at 47; x -24 at 71", bay.tacks(0, true, 1), 74);
            Due.is("bit 1: out at 67; x -184 at 71", bay.tacks(0, true, 2), 94);
            Due.is("bit 2: out at 25 and 35; x -88 at 73", bay.tacks(0, true, 4), 84);
            Due.is("bit 3: out at 25 and 55; x 72 at 73", bay.tacks(0, true, 8), 82);
            Due.is("bit 4: out at 25; x 168 at 71", bay.tacks(0, true, 16), 92);
            Due.is("bit 5: out at 25; x 8 at 71", bay.tacks(0, true, 32), 72);
            Due.is("bit 6: at DIST", bay.tacks(0, true, 64), 86);
        });
        Due.sentence("14: .. (8 bits): the last two", () -> {
            WindBay bay = new WindBay();
            bay.set(0, 400);
            bay.set(1, 2);
            bay.set(2, 200);
            Due.is("no bit: out at 25 and 77; x 16 at 106", bay.tacks(0, true, 0), 108);
            Due.is("bit 6: out at 25; x 128 at 106", bay.tacks(0, true, 64), 122);
            Due.is("bit 7: out at 25, 77 and 83; x 16 at 112", bay.tacks(0, true, 128), 114);
        });
        Due.sentence("14: at -200 and 200 always, else never", () -> {
            WindBay bay = new WindBay();
            bay.set(0, 400);
            Due.is("LEFT, no bit", bay.tacks(0, false, 0), 86);
            Due.is("from 200, RIGHT: out at 1 and 53; x -72 at 71", bay.tacks(200, true, 0), 80);
            Due.is("from -200, LEFT: out at 1 and 53; x 72 at 71", bay.tacks(-200, false, 0), 80);
        });
    }

    private static void tacksWhereNoneAre() {
        Due.sentence("14: not in a turn", () -> {
            WindBay bay = new WindBay();
            bay.set(0, 400);
            Due.is("no bit: out at 9 and 61; x -136 at 71", bay.tacks(128, true, 0), 88);
            Due.is("bit 0: in a turn at 10", bay.tacks(128, true, 1), 88);
        });
        Due.sentence("14: not at DIST", () -> {
            WindBay bay = new WindBay();
            bay.set(3, 5);
            bay.set(0, 60);
            Due.is("at DIST at 10, x 80", bay.tacks(0, true, 0), 20);
            Due.is("bit 0: at DIST at 10", bay.tacks(0, true, 1), 20);
            bay.set(0, 61);
            Due.is("at DIST at 11, x 88", bay.tacks(0, true, 0), 22);
            Due.is("bit 0: turned at 10, at DIST at 16, x 72", bay.tacks(0, true, 1), 25);
        });
    }

    private static void tacksTillIn() {
        Due.sentence("14: SECONDS till it is IN: as it comes to DIST at x 0", () -> {
            WindBay bay = new WindBay();
            bay.set(0, 42);
            Due.is("7", bay.tacks(-56, true, 0), 7);
            Due.is("8", bay.tacks(-57, true, 0), 8);
            Due.is("8", bay.tacks(-48, true, 0), 8);
            Due.is("9", bay.tacks(-47, true, 0), 9);
        });
        Due.sentence("14: SECONDS till it is IN: 399", () -> {
            WindBay bay = new WindBay();
            bay.set(0, 40);
            Due.law(bay, "((t+94)%104/52*2-1)*30-t/396*70");
            Due.is("to and fro", bay.tacks(136, true, 0), 399);
        });
        Due.sentence("14: SECONDS till it is IN: 400", () -> {
            WindBay bay = new WindBay();
            bay.set(0, 40);
            Due.law(bay, "((t+93)%104/52*2-1)*30-t/397*70");
            Due.is("to and fro", bay.tacks(128, true, 0), 400);
        });
        Due.sentence("14: (400, if it isn't)", () -> {
            WindBay bay = new WindBay();
            bay.set(0, 40);
            Due.law(bay, "((t+93)%104/52*2-1)*30");
            Due.is("to and fro without a gain", bay.tacks(128, true, 0), 400);
        });
    }

    private static void tacksAlone() {
        Due.sentence("14: a BOAT alone (no others; no KIND) .. WINDS from SECOND 0 on", () -> {
            WindBay bay = new WindBay();
            Due.law(bay, "t%40-20");
            int due = bay.tacks(10, true, 21);
            for (int i = 0; i < 4; i++) {
                bay.boat(i, 10 + i, true, 1);
            }
            Due.is("beside others", bay.tacks(10, true, 21), due);
            bay.go(33);
            Due.is("at SECOND 33", bay.tacks(10, true, 21), due);
            Due.is("as it was", bay.count(1), 33);
            Due.is("as it was", bay.count(0), 4);
        });
    }

    private static void noOthers() {
        Due.sentence("14: (no others): whatever went by in mind ahead of it: all were IN", () -> {
            WindBay bay = new WindBay();
            bay.set(0, 42);
            for (int i = 0; i < 4; i++) {
                bay.boat(0, -56, true, 0);
            }
            Due.is("in mind", bay.ends(3), 4);
            Due.is("alone", bay.tacks(-56, true, 0), 7);
        });
        Due.sentence("14: (no others): whatever went by in mind ahead of it: they were just ahead", () -> {
            WindBay bay = new WindBay();
            bay.set(0, 42);
            for (int i = 0; i < 4; i++) {
                bay.boat(0, -64, true, 0);
            }
            Due.ints(bay, 0, 6);
            Due.is("in mind at x -56, y 6", bay.read(0, 0), -4);
            Due.is("alone", bay.tacks(-56, true, 0), 7);
            Due.is("two of a GAME", bay.lead(0, 0, 3, 0, 0), 0);
            Due.is("alone", bay.tacks(-56, true, 0), 7);
        });
    }

    /** The least SECONDS of all bits times 1000, and their least bits. */
    private static int least(WindBay bay, int x, boolean right) {
        int least = MAX;
        for (int bits = 0; bits < 256; bits++) {
            least = Math.min(least, bay.tacks(x, right, bits) * 1000 + bits);
        }
        return least;
    }

    private static void best() {
        Due.sentence("15: -1", () -> {
            WindBay bay = new WindBay();
            Due.all("x", x -> bay.best(x, true, 0), -1, -201, 201, MIN, MAX);
            Due.all("what", what -> bay.best(0, true, what), -1, -1, 2, MIN, MAX);
            bay.set(0, 40);
            Due.is("x -200", bay.best(-200, true, 1), 25);
            Due.is("x 200", bay.best(200, false, 1), 25);
        });
        Due.sentence("15: the bits (what 0), SECONDS (1)", () -> {
            WindBay bay = new WindBay();
            Due.is("bits 0 and 2", bay.best(0, true, 0), 5);
            Due.is("turned at 10 and 30: x -16 at 38", bay.best(0, true, 1), 40);
            Due.is("LEFT", bay.best(0, false, 0), 5);
        });
        Due.sentence("15: of several the least bits", () -> {
            WindBay bay = new WindBay();
            bay.set(0, 42);
            Due.is("all bits are alike", bay.best(-56, true, 0), 0);
            Due.is("all bits are alike", bay.tacks(-56, true, 255), 7);
            Due.law(bay, "((t+94)%104/52*2-1)*40");
            Due.is("never IN, whatever the bits", bay.best(0, true, 1), least(bay, 0, true) / 1000);
            WindBay calm = new WindBay();
            Due.is("40 SECONDS by 5", calm.tacks(0, true, 5), 40);
            Due.is("40 SECONDS by 128 more", calm.tacks(0, true, 133), 40);
        });
        Due.sentence("15: the bits with the least: of all 256, by a WIND and a TIDE that change much", () -> {
            WindBay bay = new WindBay();
            bay.set(0, 400);
            bay.set(1, 3);
            bay.set(2, 200);
            Due.law(bay, "(t/5%2*2-1)*20");
            bay.set(3, 9);
            int least = least(bay, 0, true);
            Due.is("SECONDS", bay.best(0, true, 1), least / 1000);
            Due.is("bits", bay.best(0, true, 0), least % 1000);
        });
        Due.sentence("15: the bits with the least: a last bit that helps", () -> {
            int highest = 0;
            for (int x = -200; x <= 200; x += 25) {
                WindBay bay = new WindBay();
                bay.set(0, 400);
                bay.set(1, 2);
                bay.set(2, 200);
                int least = least(bay, x, true);
                Due.is("bits from " + x, bay.best(x, true, 0), least % 1000);
                Due.is("SECONDS from " + x, bay.best(x, true, 1), least / 1000);
                highest = Math.max(highest, least % 1000);
            }
            Due.is("bit 7 helped", highest >= 128 ? 1 : 0, 1);
        });
    }

    private static void bestByLateTurns() {
        Due.sentence("15: the bits with the least: a turn just ahead of the end", () -> {
            WindBay bay = new WindBay();
            bay.set(0, 61);
            bay.set(3, 0);
            Due.is("on: at DIST at 11, x 16", bay.tacks(-72, true, 0), 13);
            Due.is("turned at 10: at DIST at 11, x 0", bay.tacks(-72, true, 1), 11);
            Due.is("SECONDS", bay.best(-72, true, 1), 11);
            Due.is("bits", bay.best(-72, true, 0), 1);
        });
        Due.sentence("15: the bits with the least: a turn just ahead of the end, at 30", () -> {
            WindBay bay = new WindBay();
            bay.set(0, 181);
            bay.set(3, 0);
            Due.is("out at 4, at DIST at 31, x 16", bay.tacks(-168, false, 0), 33);
            Due.is("turned at 30: at DIST at 31, x 0", bay.tacks(-168, false, 4), 31);
            Due.is("SECONDS", bay.best(-168, false, 1), 31);
            Due.is("bits", bay.best(-168, false, 0), 4);
        });
    }

    private static void sidesFrom() {
        Due.sentence("16: the start at -100 .. at 100: no other x, either way", () -> {
            String[] laws = {"10", "0-10", "(t/40*2-1)*25", "(1-t/40*2)*25", "0"};
            int[][] told = new int[4][2];
            for (int n = 0; n < 150; n++) {
                WindBay bay = new WindBay();
                bay.set(0, 60 + n);
                bay.set(1, 3);
                bay.set(2, 99 + n / 5 % 2);
                Due.law(bay, laws[n % 5]);
                int[] right = {bay.best(100, false, 1), bay.best(100, true, 1)};
                int[] left = {bay.best(-100, false, 1), bay.best(-100, true, 1)};
                Due.is("sides, DIST " + (60 + n), bay.sides(), Math.min(right[0], right[1]) - Math.min(left[0], left[1]));
                for (int off = -1; off <= 1; off += 2) {
                    tell(told[1 + off], right, bay.best(100 + off, false, 1), bay.best(100 + off, true, 1));
                    tell(told[2 + off], left, bay.best(-100 + off, false, 1), bay.best(-100 + off, true, 1));
                }
            }
            for (int i = 0; i < 8; i++) {
                Due.is("another start would tell, " + i, told[i / 2][i % 2] > 0 ? 1 : 0, 1);
            }
        });
    }

    /** Whether another start of the one way, of the other one, would have been told. */
    private static void tell(int[] told, int[] ways, int left, int right) {
        int better = Math.min(ways[0], ways[1]);
        told[0] += Math.min(left, ways[1]) != better ? 1 : 0;
        told[1] += Math.min(ways[0], right) != better ? 1 : 0;
    }

    private static void sides() {
        Due.sentence("16: both sides alike", () -> {
            Due.is("a calm bay", new WindBay().sides(), 0);
            WindBay tide = new WindBay();
            tide.set(1, 3);
            Due.is("a TIDE both ways", tide.sides(), 0);
        });
        Due.sentence("16: by how much x of the start at -100 is better than at 100", () -> {
            WindBay bay = new WindBay();
            bay.set(0, 40);
            Due.law(bay, "30");
            Due.is("from 100 LEFT: at DIST at 4, x 68", bay.best(100, false, 1), 13);
            Due.is("from -100 LEFT: at DIST at 4, x -132", bay.best(-100, false, 1), 21);
            Due.is("below 0", bay.sides(), -8);
            Due.law(bay, "0-30");
            Due.is("above 0", bay.sides(), 8);
        });
        Due.sentence("16: -1 is no refusal, but a SECOND", () -> {
            int once = 0;
            for (int dist = 40; dist <= 64; dist++) {
                WindBay bay = new WindBay();
                bay.set(0, dist);
                Due.law(bay, "5");
                int from = Math.min(bay.best(100, true, 1), bay.best(100, false, 1));
                int left = Math.min(bay.best(-100, true, 1), bay.best(-100, false, 1));
                Due.is("DIST " + dist, bay.sides(), from - left);
                once += from - left == -1 ? 1 : 0;
            }
            Due.is("-1 was one of them", once > 0 ? 1 : 0, 1);
        });
        Due.sentence("16: (the better of both ways each)", () -> {
            for (String law : new String[] {"10", "0-10", "t%40-20", "20-t%40"}) {
                int[] least = new int[4];
                for (int i = 0; i < 4; i++) {
                    WindBay bay = new WindBay();
                    bay.set(0, 120);
                    Due.law(bay, law);
                    least[i] = least(bay, i < 2 ? 100 : -100, i % 2 == 0) / 1000;
                }
                WindBay bay = new WindBay();
                bay.set(0, 120);
                Due.law(bay, law);
                Due.is("by " + law, bay.sides(), Math.min(least[0], least[1]) - Math.min(least[2], least[3]));
            }
        });
    }
}
