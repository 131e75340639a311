/** Boundary cases of promises 6, 7, 8 and 10 (boat, of, badAir, turn), sentence by sentence. */
public final class EdgesBoatTest {
    private static final int MIN = Integer.MIN_VALUE;
    private static final int MAX = Integer.MAX_VALUE;
    private static final int FAR = -1000000000;

    public static void main(String[] args) {
        comings();
        refusedComings();
        tellings();
        badAirByY();
        badAirNow();
        badAirByX();
        badAirOfWhoIsIn();
        turns();
        refusedTurns();
        Due.end();
    }

    private static void comings() {
        Due.sentence("6: BOATS 0 .. 3 as they come", () -> {
            WindBay bay = new WindBay();
            for (int i = 0; i < 4; i++) {
                Due.is("its number", bay.boat(i, i, true, i), i);
                Due.is("BOATS", bay.count(0), i + 1);
            }
        });
        Due.sentence("6: -1: KINDS 0 .. 7", () -> {
            WindBay bay = new WindBay();
            Due.all("KIND", kind -> bay.boat(kind, 0, true, 0), -1, -1, 8, 9, MIN, MAX);
            Due.is("KIND 0", bay.boat(0, 0, true, 0), 0);
            Due.is("KIND 7", bay.boat(7, 0, true, 0), 1);
        });
        Due.sentence("6: -1: x (-200 .. 200)", () -> {
            WindBay bay = new WindBay();
            Due.all("x", x -> bay.boat(0, x, true, 0), -1, -201, 201, MIN, MAX);
            Due.is("x -200", bay.boat(0, -200, true, 0), 0);
            Due.is("x 200", bay.boat(0, 200, true, 0), 1);
            Due.is("x of 0", bay.of(0, 1), -200);
            Due.is("x of 1", bay.of(1, 1), 200);
        });
        Due.sentence("6: -1: a FIGURE (0 .. 40)", () -> {
            WindBay bay = new WindBay();
            Due.all("FIGURE", figure -> bay.boat(0, 0, true, figure), -1, -1, 41, MIN, MAX);
            Due.is("FIGURE 0", bay.boat(0, 0, true, 0), 0);
            Due.is("FIGURE 40", bay.boat(0, 0, true, 40), 1);
            Due.is("FIGURE of 0", bay.of(0, 6), 0);
            Due.is("FIGURE of 1", bay.of(1, 6), 40);
        });
        Due.sentence("6: at y 0, going LEFT or RIGHT", () -> {
            WindBay bay = new WindBay();
            bay.boat(0, 5, true, 1);
            bay.boat(0, -5, false, 1);
            Due.boat("RIGHT", bay, 0, 5, 0, true, 0, 0);
            Due.boat("LEFT", bay, 1, -5, 0, false, 0, 0);
        });
    }

    private static WindBay full() {
        WindBay bay = new WindBay();
        for (int i = 0; i < 4; i++) {
            bay.boat(0, 50 * i, true, 0);
        }
        return bay;
    }

    private static void refusedComings() {
        Due.sentence("6: -2 (no room)", () -> Due.is("a fifth one", full().boat(0, 0, true, 0), -2));
        Due.sentence("6: -3: the RACE has begun", () -> {
            WindBay bay = new WindBay();
            bay.boat(0, 0, true, 0);
            bay.go(1);
            Due.is("at SECOND 1", bay.boat(0, 0, true, 0), -3);
            bay.go(100);
            Due.is("once it ENDED", bay.boat(0, 0, true, 0), -3);
            bay.anew();
            Due.is("at SECOND 0 again", bay.boat(0, 0, true, 0), 1);
        });
        Due.sentence("6: a turn at SECOND 0 doesn't begin the RACE", () -> {
            WindBay bay = new WindBay();
            bay.boat(0, 0, true, 0);
            bay.turn(0);
            Due.is("another one", bay.boat(0, 0, true, 0), 1);
        });
        Due.sentence("6: of several refusals the first one: -1 ahead of -2 and -3", () -> {
            WindBay bay = full();
            Due.is("wrong, no room", bay.boat(8, 0, true, 0), -1);
            bay.go(1);
            Due.is("wrong, no room, begun", bay.boat(0, 201, true, 0), -1);
            WindBay one = new WindBay();
            one.boat(0, 0, true, 0);
            one.go(1);
            Due.is("wrong, begun", one.boat(0, 0, true, 41), -1);
        });
        Due.sentence("6: of several refusals the first one: -2 ahead of -3", () -> {
            WindBay bay = full();
            bay.go(1);
            Due.is("no room, begun", bay.boat(0, 0, true, 0), -2);
        });
        Due.sentence("6: A refused call changes nothing", () -> {
            WindBay bay = full();
            bay.boat(7, -9, false, 40);
            Due.is("BOATS", bay.count(0), 4);
            for (int i = 0; i < 4; i++) {
                Due.boat("as it was", bay, i, 50 * i, 0, true, 0, 0);
                Due.is("KIND", bay.of(i, 0), 0);
                Due.is("FIGURE", bay.of(i, 6), 0);
            }
            WindBay begun = new WindBay();
            begun.boat(0, 0, true, 0);
            begun.go(1);
            begun.boat(0, 0, true, 0);
            begun.boat(-1, 0, true, 0);
            Due.is("BOATS", begun.count(0), 1);
            Due.is("no BOAT 1", begun.of(1, 0), FAR - 1);
        });
    }

    private static void tellings() {
        Due.sentence("7: -1000000001: no such BOAT", () -> {
            WindBay none = new WindBay();
            Due.all("of no BOATS", i -> none.of(i, 0), FAR - 1, 0, 1, -1, MIN, MAX);
            WindBay two = new WindBay();
            two.boat(0, 0, true, 0);
            two.boat(0, 0, true, 0);
            Due.all("of two BOATS", i -> two.of(i, 1), FAR - 1, 2, 3, 4, -1, MIN, MAX);
            Due.is("BOAT 1", two.of(1, 2), 0);
            WindBay four = full();
            Due.all("of four BOATS", i -> four.of(i, 1), FAR - 1, 4, -1, MIN, MAX);
            Due.is("BOAT 3", four.of(3, 1), 150);
        });
        Due.sentence("7: -1000000001: what 0 .. 7", () -> {
            WindBay bay = new WindBay();
            bay.boat(3, 9, true, 4);
            Due.all("what", what -> bay.of(0, what), FAR - 1, -1, 8, MIN, MAX);
            Due.is("what 0", bay.of(0, 0), 3);
            Due.is("what 7", bay.of(0, 7), 0);
        });
        Due.sentence("7: x below 0 is answered as it is", () -> {
            WindBay bay = new WindBay();
            bay.boat(0, -1, false, 0);
            Due.is("x -1 is no refusal", bay.of(0, 1), -1);
            bay.go(1);
            Due.is("x -9", bay.of(0, 1), -9);
        });
        Due.sentence("7: the SECOND at which it was IN (-4: it isn't)", () -> {
            WindBay bay = new WindBay();
            bay.set(0, 42);
            bay.boat(0, -56, true, 0);
            bay.boat(0, 0, true, 0);
            Due.is("at first", bay.of(0, 5), -4);
            bay.go(6);
            Due.is("a SECOND ahead of it", bay.of(0, 5), -4);
            bay.go(1);
            Due.is("IN", bay.of(0, 5), 7);
            Due.is("at DIST, but not IN", bay.of(1, 5), -4);
            bay.go(7);
            Due.is("later", bay.of(0, 5), 7);
            Due.is("IN", bay.of(1, 5), 14);
        });
        Due.sentence("7: IN at SECOND 400", () -> {
            WindBay bay = inAt400();
            bay.go(2);
            Due.is("at 399", bay.of(0, 5), -4);
            Due.is("go(1)", bay.go(1), 400);
            Due.boat("at 400", bay, 0, 0, 42, true, 0, 8);
            Due.is("IN", bay.of(0, 5), 400);
            Due.is("BOATS that are IN", bay.count(2), 1);
        });
        Due.sentence("7: SECONDS of a turn left, from COST to 0", () -> {
            WindBay bay = new WindBay();
            bay.set(3, 9);
            bay.boat(0, 0, true, 0);
            bay.turn(0);
            for (int left = 9; left > 0; left--) {
                Due.is("left", bay.of(0, 4), left);
                bay.go(1);
                Due.is("it stays", bay.of(0, 1), 0);
            }
            Due.is("none left", bay.of(0, 4), 0);
            bay.go(1);
            Due.is("none left", bay.of(0, 4), 0);
            Due.is("on", bay.of(0, 1), -8);
        });
        Due.sentence("7: how often it turned: told turns, its KIND's, those at -200 and 200", () -> {
            WindBay bay = new WindBay();
            bay.set(3, 0);
            bay.boat(0, 184, true, 1);
            bay.turn(0);
            bay.turn(0);
            Due.is("told", bay.of(0, 7), 2);
            bay.go(2);
            Due.is("at 200", bay.of(0, 7), 3);
            bay.go(3);
            Due.is("at SECOND 5", bay.of(0, 7), 4);
        });
    }

    /** At SECOND 397, x -24, y 0, DIST 40: to and fro from 128 in legs of 50 SECONDS without a gain. */
    static WindBay inAt400() {
        WindBay bay = new WindBay();
        bay.set(0, 40);
        Due.law(bay, "((t+93)%104/52*2-1)*30");
        bay.boat(0, 128, true, 0);
        for (int i = 0; i < 3; i++) {
            bay.go(100);
        }
        bay.go(97);
        Due.boat("at 397", bay, 0, -24, 0, true, 0, 8);
        Due.law(bay, "0-40");
        return bay;
    }

    /** BOAT 0 at x 16 going RIGHT, so much in y ahead (0 .. 28) of BOAT 1, which is at y 0 and so far off in x. */
    private static WindBay twoApart(int ahead, int off) {
        WindBay bay = new WindBay();
        bay.set(0, 400);
        bay.boat(0, 0, true, 0);
        bay.boat(0, 16 + off, false, 0);
        bay.turn(1);
        int first = Math.min(14, ahead);
        Due.law(bay, "(6-" + first + ")*5*(1-t)+(6-" + (ahead - first) + ")*5*t");
        bay.go(2);
        Due.boat("ahead", bay, 0, 16, ahead, true, 0, 0);
        Due.boat("behind", bay, 1, 16 + off, 0, true, 0, 1);
        return bay;
    }

    private static void badAir(int ahead, int off, int due) {
        WindBay bay = twoApart(ahead, off);
        Due.is("badAir, " + ahead + " behind, " + off + " off", bay.badAir(1), due);
        Due.is("badAir of who is ahead", bay.badAir(0), 0);
        Due.is("BOATS in BAD AIR", bay.count(4), due);
    }

    private static void badAirByY() {
        Due.sentence("8: -1", () -> {
            WindBay none = new WindBay();
            Due.all("no BOATS", none::badAir, -1, 0, -1, MIN, MAX);
            WindBay four = full();
            Due.all("four BOATS", four::badAir, -1, 4, -1, MIN, MAX);
            Due.is("BOAT 3", four.badAir(3), 0);
        });
        Due.sentence("8: another BOAT 1 .. 20 ahead in y: 0 is not, 1 is", () -> {
            badAir(0, 0, 0);
            badAir(1, 0, 1);
            badAir(2, 0, 1);
        });
        Due.sentence("8: another BOAT 1 .. 20 ahead in y: 20 is, 21 is not", () -> {
            badAir(19, 0, 1);
            badAir(20, 0, 1);
            badAir(21, 0, 0);
            badAir(28, 0, 0);
        });
        Due.sentence("8: another BOAT: not itself", () -> {
            WindBay bay = new WindBay();
            bay.boat(2, 0, true, 0);
            bay.go(3);
            Due.is("alone", bay.badAir(0), 0);
        });
        Due.sentence("8: Whether a BOAT is .. now: whoever of four it is", () -> {
            for (int behind = 0; behind < 4; behind++) {
                WindBay bay = new WindBay();
                for (int i = 0; i < 4; i++) {
                    bay.boat(0, i == behind ? 8 : 0, i != behind, 0);
                }
                bay.turn(behind);
                bay.go(1);
                for (int i = 0; i < 4; i++) {
                    Due.is("badAir(" + i + ")", bay.badAir(i), i == behind ? 1 : 0);
                }
                Due.is("one", bay.count(4), 1);
            }
        });
    }

    private static void badAirNow() {
        Due.sentence("8: .. now: as the RACE begins anew", () -> {
            WindBay bay = twoApart(6, 0);
            Due.is("behind", bay.badAir(1), 1);
            bay.anew();
            Due.is("level", bay.badAir(1), 0);
            WindBay other = twoApart(6, 0);
            other.anew();
            Due.is("BOATS in BAD AIR", other.count(4), 0);
        });
        Due.sentence("8: .. now: in the next SECOND, too, as the RACE begins anew", () -> {
            WindBay bay = new WindBay();
            bay.set(3, 1);
            bay.boat(0, 0, true, 0);
            bay.boat(0, 8, true, 0);
            bay.turn(1);
            bay.go(1);
            Due.is("behind", bay.badAir(1), 1);
            bay.anew();
            bay.go(1);
            Due.is("not slowed", bay.of(1, 2), 6);
        });
        Due.sentence("8: .. now: as THE IMAGE is RESTORED", () -> {
            WindBay bay = new WindBay();
            bay.set(3, 1);
            bay.boat(0, 0, true, 0);
            bay.boat(0, 8, true, 0);
            bay.turn(1);
            bay.go(1);
            bay.image();
            bay.anew();
            Due.is("level", bay.badAir(1), 0);
            bay.restore();
            Due.is("behind", bay.badAir(1), 1);
            bay.anew();
            bay.restore();
            Due.is("BOATS in BAD AIR", bay.count(4), 1);
            bay.anew();
            bay.go(1);
            bay.restore();
            bay.go(1);
            Due.is("slowed", bay.of(1, 2), 4);
        });
        Due.sentence("8: .. now: ahead of the first SECOND", () -> {
            WindBay bay = full();
            Due.all("badAir", bay::badAir, 0, 0, 1, 2, 3);
        });
    }

    private static void badAirByX() {
        Due.sentence("8: and 6 or less off in x: 6 is, 7 is not", () -> {
            badAir(6, 6, 1);
            badAir(6, 7, 0);
            badAir(6, 8, 0);
        });
        Due.sentence("8: and 6 or less off in x, the other way, too", () -> {
            badAir(6, -6, 1);
            badAir(6, -7, 0);
            badAir(6, -8, 0);
        });
        Due.sentence("8: both bounds at once", () -> {
            badAir(20, 6, 1);
            badAir(20, -6, 1);
            badAir(1, 6, 1);
            badAir(21, 6, 0);
            badAir(20, 7, 0);
            badAir(0, 6, 0);
        });
    }

    /** At SECOND 6; at 7 BOAT 0 is IN (x 0, y 42), and BOAT 1, which went behind it from 1 on, is 18 behind. */
    private static WindBay oneIn() {
        WindBay bay = new WindBay();
        bay.set(0, 42);
        bay.set(3, 1);
        bay.boat(0, -56, true, 0);
        bay.boat(0, -48, false, 0);
        bay.turn(1);
        bay.go(6);
        Due.boat("ahead of it", bay, 0, -8, 36, true, 0, 0);
        Due.boat("ahead of it", bay, 1, -8, 20, true, 0, 1);
        return bay;
    }

    private static void badAirOfWhoIsIn() {
        Due.sentence("8: another BOAT that isn't IN", () -> {
            WindBay bay = oneIn();
            Due.is("16 behind, not IN yet", bay.badAir(1), 1);
            bay.go(1);
            Due.is("IN", bay.of(0, 5), 7);
            Due.boat("slowed in it", bay, 1, 0, 24, true, 0, 1);
            Due.is("18 behind who is IN", bay.badAir(1), 0);
            Due.is("none in BAD AIR", bay.count(4), 0);
            bay.go(1);
            Due.boat("not slowed", bay, 1, 8, 30, true, 0, 1);
        });
        Due.sentence("8: another BOAT that isn't IN, but at DIST, does", () -> {
            WindBay bay = new WindBay();
            bay.set(0, 42);
            bay.set(3, 1);
            bay.boat(0, -48, true, 0);
            bay.boat(0, -40, false, 0);
            bay.turn(1);
            bay.go(7);
            Due.boat("at DIST", bay, 0, 8, 42, true, 0, 0);
            Due.is("not IN", bay.of(0, 5), -4);
            Due.boat("slowed from SECOND 2 on", bay, 1, 8, 24, true, 0, 1);
            Due.is("18 behind", bay.badAir(1), 1);
            bay.go(1);
            Due.is("IN", bay.of(0, 5), 8);
            Due.boat("slowed in it", bay, 1, 16, 28, true, 0, 1);
            Due.is("behind who is IN", bay.badAir(1), 0);
        });
        Due.sentence("8: who isn't IN", () -> {
            WindBay bay = new WindBay();
            bay.set(0, 40);
            bay.set(3, 0);
            bay.boat(0, -56, true, 0);
            bay.boat(0, -56, true, 0);
            bay.go(7);
            bay.set(0, 400);
            Due.is("both are IN", bay.count(2), 2);
            Due.is("0, level", bay.badAir(0), 0);
            WindBay later = passedWhoIsIn();
            Due.is("2 behind, but IN", later.badAir(0), 0);
            Due.is("none in BAD AIR", later.count(4), 0);
        });
    }

    /** BOAT 0 is IN at y 42; DIST is 400 then, and BOAT 1 at x 0, y 44. */
    private static WindBay passedWhoIsIn() {
        WindBay bay = new WindBay();
        bay.set(0, 42);
        bay.boat(0, -56, true, 0);
        bay.boat(0, 104, false, 0);
        bay.turn(1);
        bay.turn(1);
        bay.go(6);
        bay.set(3, 0);
        bay.go(1);
        Due.is("IN", bay.of(0, 5), 7);
        Due.boat("two SECONDS behind", bay, 1, 144, 30, true, 0, 1);
        bay.set(0, 400);
        bay.turn(1);
        Due.gain(bay, 12);
        bay.go(16);
        Due.boat("LEFT without a gain", bay, 1, 16, 30, false, 0, 2);
        Due.gain(bay, 5);
        bay.go(2);
        Due.boat("LEFT with 7 a SECOND", bay, 1, 0, 44, false, 0, 2);
        Due.boat("who is IN", bay, 0, 0, 42, true, 0, 0);
        return bay;
    }

    private static void turns() {
        Due.sentence("10: -1", () -> {
            WindBay none = new WindBay();
            Due.all("no BOATS", none::turn, -1, 0, -1, MIN, MAX);
            WindBay four = full();
            Due.all("four BOATS", four::turn, -1, 4, -1, MIN, MAX);
            Due.is("BOAT 3", four.turn(3), 2);
        });
        Due.sentence("10: SECONDS of the turn: COST 0 .. 9", () -> {
            for (int cost = 0; cost <= 9; cost++) {
                WindBay bay = new WindBay();
                bay.set(3, cost);
                bay.boat(0, 0, true, 0);
                Due.is("turn", bay.turn(0), cost);
                Due.boat("turned", bay, 0, 0, 0, false, cost, 1);
            }
        });
        Due.sentence("10: whatever its KIND", () -> {
            for (int kind = 0; kind < 8; kind++) {
                WindBay bay = new WindBay();
                bay.boat(kind, 0, false, 40);
                Due.is("turn of KIND " + kind, bay.turn(0), 2);
                Due.boat("turned", bay, 0, 0, 0, true, 2, 1);
            }
        });
        Due.sentence("10: in a turn for COST SECONDS from the next SECOND on", () -> {
            WindBay bay = new WindBay();
            bay.boat(0, 0, true, 0);
            bay.go(1);
            bay.turn(0);
            bay.go(1);
            Due.boat("one", bay, 0, 8, 6, false, 1, 1);
            bay.go(1);
            Due.boat("two", bay, 0, 8, 6, false, 0, 1);
            bay.go(1);
            Due.boat("on", bay, 0, 0, 12, false, 0, 1);
        });
        Due.sentence("10: COST 0: in no turn", () -> {
            WindBay bay = new WindBay();
            bay.set(3, 0);
            bay.boat(0, 0, true, 0);
            Due.is("turn", bay.turn(0), 0);
            Due.is("again", bay.turn(0), 0);
            Due.is("again", bay.turn(0), 0);
            bay.go(1);
            Due.boat("at once", bay, 0, -8, 6, false, 0, 3);
        });
        Due.sentence("10: a COST told later doesn't matter to a turn that goes on", () -> {
            WindBay bay = new WindBay();
            bay.boat(0, 0, true, 0);
            bay.turn(0);
            bay.set(3, 9);
            bay.go(2);
            Due.boat("two SECONDS", bay, 0, 0, 0, false, 0, 1);
            Due.is("the next one", bay.turn(0), 9);
        });
    }

    private static void refusedTurns() {
        Due.sentence("10: -3: in a turn", () -> {
            WindBay bay = new WindBay();
            bay.boat(0, 0, true, 0);
            bay.turn(0);
            Due.is("two left", bay.turn(0), -3);
            bay.go(1);
            Due.is("one left", bay.turn(0), -3);
            Due.boat("refused", bay, 0, 0, 0, false, 1, 1);
            bay.go(1);
            Due.is("none left", bay.turn(0), 2);
        });
        Due.sentence("10: -3: at DIST", () -> {
            WindBay bay = new WindBay();
            bay.set(0, 43);
            bay.boat(0, 0, true, 0);
            bay.go(7);
            Due.is("y", bay.of(0, 2), 42);
            Due.is("one less than DIST", bay.turn(0), 2);
            bay.anew();
            bay.set(0, 42);
            bay.go(7);
            Due.is("at DIST", bay.turn(0), -3);
            Due.boat("refused", bay, 0, 56, 42, true, 0, 0);
            bay.anew();
            bay.set(0, 41);
            bay.go(7);
            Due.is("beyond DIST", bay.turn(0), -3);
        });
        Due.sentence("10: -3: IN", () -> {
            WindBay bay = oneIn();
            Due.is("not yet", bay.of(0, 5), -4);
            bay.go(1);
            Due.is("IN", bay.of(0, 5), 7);
            Due.is("turn", bay.turn(0), -3);
            Due.boat("refused", bay, 0, 0, 42, true, 0, 0);
        });
        Due.sentence("10: -3: IN (by a DIST that was less, too)", () -> {
            WindBay bay = oneIn();
            bay.go(1);
            Due.is("DIST is more", bay.set(0, 43), 42);
            Due.is("turn", bay.turn(0), -3);
            bay.set(0, 400);
            Due.is("turn", bay.turn(0), -3);
            Due.boat("refused", bay, 0, 0, 42, true, 0, 0);
        });
        Due.sentence("10: at DIST, not IN, and DIST is more then: it may turn", () -> {
            WindBay bay = new WindBay();
            bay.set(0, 42);
            bay.boat(0, 0, true, 0);
            bay.go(7);
            Due.is("at DIST", bay.turn(0), -3);
            bay.set(0, 43);
            Due.is("no more at DIST", bay.turn(0), 2);
        });
        Due.sentence("10: that the RACE ENDED is no refusal", () -> {
            WindBay bay = inAt400();
            Due.gain(bay, 0);
            bay.go(3);
            Due.is("ENDED", bay.go(1), -3);
            Due.boat("not IN", bay, 0, 0, 0, true, 0, 8);
            Due.is("turn", bay.turn(0), 2);
            Due.is("in a turn", bay.turn(0), -3);
        });
    }
}
