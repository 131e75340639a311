/** Promises 17 to 20: lead, safe, answer, cover. */
public final class GameTest {
    private static final int FAR = -1000000001;
    private static final String[] LAWS = {"0", "t/2-20", "t%40-20", "t*s%50-25", "(t%7-3)*(t%11-5)*2"};

    public static void main(String[] args) {
        refusals();
        byHand();
        leadAsARace();
        gamesByLead();
        leastOfSeveral();
        whateverTheRace();
        Due.end();
    }

    private static void refusals() {
        WindBay bay = new WindBay();
        int[][] wrong = {
            {-201, 0, 0}, {201, 0, 0}, {0, -201, 0}, {0, 201, 0}, {0, 0, -1}, {0, 0, 4},
            {Integer.MIN_VALUE, 0, 0}, {0, Integer.MAX_VALUE, 0}, {0, 0, Integer.MIN_VALUE}
        };
        for (int[] game : wrong) {
            Due.is("lead", bay.lead(game[0], game[1], game[2], 0, 0), FAR);
            Due.is("safe", bay.safe(game[0], game[1], game[2], 0), FAR);
            Due.is("answer", bay.answer(game[0], game[1], game[2], 0), -1);
            Due.is("cover", bay.cover(game[0], game[1], game[2], 0), FAR);
        }
        int[] bits = {-1, 16, Integer.MIN_VALUE, Integer.MAX_VALUE};
        for (int wrongBits : bits) {
            Due.is("lead, bits", bay.lead(0, 0, 0, wrongBits, 0), FAR);
            Due.is("lead, others", bay.lead(0, 0, 0, 0, wrongBits), FAR);
            Due.is("answer, bits", bay.answer(0, 0, 0, wrongBits), -1);
            Due.is("cover, bits", bay.cover(0, 0, 0, wrongBits), FAR);
        }
        Due.is("safe, what below", bay.safe(0, 0, 0, -1), FAR);
        Due.is("safe, what beyond", bay.safe(0, 0, 0, 2), FAR);
        Due.is("edges", bay.lead(-200, 200, 3, 15, 15) == FAR ? 1 : 0, 0);
    }

    private static void byHand() {
        WindBay bay = new WindBay();
        bay.set(0, 400);
        // out at 200 at SECOND 25: y 348, x -64; the other out at 13, 12 behind as they cross at
        // SECOND 20, slowed in 21: y 346, x -160
        Due.is("the same way", bay.lead(0, 100, 3, 0, 0), (348 - 32) - (346 - 80));
        Due.is("turned about", bay.lead(100, 0, 3, 0, 0), (346 - 80) - (348 - 32));
        Due.is("LEFT and RIGHT", bay.lead(0, 0, 1, 0, 0), 0);
        // turned at 10: from 80 LEFT for 48 SECONDS, out at -200 at 47: y 282 at 47, then x -112 at 60
        Due.is("bits of the first", bay.lead(0, 0, 3, 1, 0), (336 - 56) - (348 - 32));
        Due.is("bits of the other", bay.lead(0, 0, 3, 0, 1), (348 - 32) - (336 - 56));
        Due.is("COVER", bay.cover(0, 0, 3, 5), 0);
        Due.is("COVER", bay.cover(0, 100, 3, 0), (348 - 32) - (346 - 80));
        bay.set(0, 42);
        Due.is("who is IN counts DIST: both", bay.lead(-56, 0, 3, 0, 0), 0);
        bay.set(0, 42);
        Due.law(bay, "0-10");
        Due.is("y 48, but IN", bay.lead(-48, -48, 3, 0, 0), 0);
        Due.is("by 8 SECONDS and no more", bay.lead(-48, 48, 1, 0, 0), 0);
    }

    /** The GAME as a RACE of two TURNS of FIGURE 0 that turn where they are told. */
    private static int leadAsARace(WindBay bay, int x, int other, int ways, int bits, int others) {
        bay.boat(0, x, (ways & 1) == 1, 0);
        bay.boat(0, other, ways >= 2, 0);
        for (int k = 0; k < 4; k++) {
            bay.go(10);
            if ((bits >> k & 1) == 1 && bay.count(1) == 10 * k + 10) {
                bay.turn(0);
            }
            if ((others >> k & 1) == 1 && bay.count(1) == 10 * k + 10) {
                bay.turn(1);
            }
        }
        bay.go(20);
        return heightAt60(bay, 0) - heightAt60(bay, 1);
    }

    private static int heightAt60(WindBay bay, int boat) {
        int y = bay.of(boat, 2) - Math.abs(bay.of(boat, 1)) / 2;
        return bay.of(boat, 5) == -4 ? y : bay.count(5);
    }

    private static WindBay bayOf(int law, int i) {
        WindBay bay = new WindBay();
        Due.law(bay, LAWS[law]);
        bay.set(0, 80 + 64 * (i % 6));
        bay.set(1, i % 4);
        bay.set(2, 50);
        bay.set(3, 1 + i % 5);
        bay.set(4, 31);
        return bay;
    }

    private static void leadAsARace() {
        for (int law = 0; law < LAWS.length; law++) {
            for (int i = 0; i < 40; i++) {
                int x = i * 71 % 401 - 200;
                int other = i % 2 == 0 ? Math.min(200, x + 3) : i * 43 % 401 - 200;
                int bits = i * 5 % 16;
                int others = (i * 7 + law) % 16;
                Due.is("lead(" + x + ", " + other + ", " + i % 4 + ", " + bits + ", " + others + ") by " + LAWS[law],
                    bayOf(law, i).lead(x, other, i % 4, bits, others),
                    leadAsARace(bayOf(law, i), x, other, i % 4, bits, others));
            }
        }
    }

    private static void gamesByLead() {
        for (int law = 0; law < LAWS.length; law++) {
            for (int i = 0; i < 12; i++) {
                WindBay bay = bayOf(law, i);
                int x = i * 37 % 300 - 150;
                int other = x + i % 8 - 3;
                int most = Integer.MIN_VALUE;
                int surest = -1;
                for (int bits = 0; bits < 16; bits++) {
                    int least = Integer.MAX_VALUE;
                    int worst = -1;
                    for (int others = 0; others < 16; others++) {
                        int lead = bay.lead(x, other, i % 4, bits, others);
                        if (lead < least) {
                            least = lead;
                            worst = others;
                        }
                    }
                    Due.is("answer", bay.answer(x, other, i % 4, bits), worst);
                    Due.is("cover", bay.cover(x, other, i % 4, bits), bay.lead(x, other, i % 4, bits, bits));
                    if (least > most) {
                        most = least;
                        surest = bits;
                    }
                }
                Due.is("safe, LEAD", bay.safe(x, other, i % 4, 0), most);
                Due.is("safe, bits", bay.safe(x, other, i % 4, 1), surest);
            }
        }
    }

    private static void leastOfSeveral() {
        WindBay bay = new WindBay();
        bay.set(0, 40);
        // both are IN long ahead of SECOND 60, whatever they do
        Due.is("safe, LEAD", bay.safe(-56, 56, 1, 0), 0);
        Due.is("safe, the least bits", bay.safe(-56, 56, 1, 1), 0);
        Due.is("the least answer", bay.answer(-56, 56, 1, 15), 0);
    }

    private static void whateverTheRace() {
        WindBay bay = bayOf(2, 3);
        int lead = bay.lead(0, 4, 3, 6, 9);
        int safe = bay.safe(0, 4, 3, 0);
        int answer = bay.answer(0, 4, 3, 6);
        bay.boat(3, 0, true, 1);
        bay.boat(2, 2, true, 1);
        bay.go(30);
        Due.is("two BOATS alone", bay.lead(0, 4, 3, 6, 9), lead);
        Due.is("two BOATS alone", bay.safe(0, 4, 3, 0), safe);
        Due.is("two BOATS alone", bay.answer(0, 4, 3, 6), answer);
        Due.is("the RACE is as it was", bay.count(1), 30);
        Due.is("the RACE is as it was", bay.of(0, 0), 3);
    }
}
