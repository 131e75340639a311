/** Boundary cases of promises 17 to 20 (lead, safe, answer, cover), sentence by sentence. */
public final class EdgesTwoTest {
    private static final int MIN = Integer.MIN_VALUE;
    private static final int MAX = Integer.MAX_VALUE;
    private static final int FAR = -1000000001;

    public static void main(String[] args) {
        leadRefused();
        leadByWays();
        leadByBits();
        leadAtSixty();
        leadOfWhoIsIn();
        safe();
        everyBits();
        answer();
        cover();
        aloneInMind();
        Due.end();
    }

    /** COST 3 and DIST 400: from x 0 without a bit y 342, x -56 at SECOND 60. */
    private static WindBay calm() {
        WindBay bay = new WindBay();
        bay.set(0, 400);
        bay.set(3, 3);
        return bay;
    }

    private static void leadRefused() {
        Due.sentence("17: -1000000001: x -200 .. 200 of both", () -> {
            WindBay bay = new WindBay();
            Due.all("x", x -> bay.lead(x, 0, 0, 0, 0), FAR, -201, 201, MIN, MAX);
            Due.all("other", x -> bay.lead(0, x, 0, 0, 0), FAR, -201, 201, MIN, MAX);
            bay.set(0, 400);
            Due.is("edges", bay.lead(-200, 200, 1, 0, 0), 0);
            Due.is("edges", bay.lead(200, -200, 2, 0, 0), 0);
        });
        Due.sentence("17: -1000000001: ways (1 the first RIGHT, 2 the other RIGHT): 0 .. 3", () -> {
            WindBay bay = new WindBay();
            Due.all("ways", ways -> bay.lead(0, 0, ways, 0, 0), FAR, -1, 4, 5, MIN, MAX);
        });
        Due.sentence("17: -1000000001: bits 0 .. 15 each", () -> {
            WindBay bay = new WindBay();
            Due.all("bits", bits -> bay.lead(0, 0, 0, bits, 0), FAR, -1, 16, MIN, MAX);
            Due.all("others", bits -> bay.lead(0, 0, 0, 0, bits), FAR, -1, 16, MIN, MAX);
            Due.is("15", bay.lead(0, 0, 0, 15, 15), 0);
        });
    }

    private static void leadByWays() {
        Due.sentence("17: told: 1 the first RIGHT, 2 the other RIGHT", () -> {
            WindBay bay = calm();
            // from 120: RIGHT out at 10, x -176 at 60; LEFT out at 40, x -64 at 60; y 342
            Due.is("both LEFT", bay.lead(120, -120, 0, 0, 0), (342 - 32) - (342 - 88));
            Due.is("the first RIGHT", bay.lead(120, -120, 1, 0, 0), 0);
            Due.is("the other RIGHT", bay.lead(120, -120, 2, 0, 0), 0);
            Due.is("both RIGHT", bay.lead(120, -120, 3, 0, 0), (342 - 88) - (342 - 32));
        });
    }

    private static void leadByBits() {
        int[] due = {-54, -40, -20, -100};
        String[] told = {
            "at 10: out at 48, y 324, x -128", "at 20: y 342, x -136",
            "at 30: out at 25 and 35, y 306, x 24", "at 40: out at 25 and 55, y 306, x 184"};
        for (int bit = 0; bit < 4; bit++) {
            int n = bit;
            Due.sentence("17: (4 bits each, at SECONDS 10 .. 40): bit " + n + " of the first", () ->
                Due.is(told[n], calm().lead(0, 0, 3, 1 << n, 0), due[n]));
            Due.sentence("17: (4 bits each, at SECONDS 10 .. 40): bit " + n + " of the other", () ->
                Due.is(told[n], calm().lead(0, 0, 3, 0, 1 << n), -due[n]));
        }
    }

    private static void leadAtSixty() {
        Due.sentence("17: LEAD at SECOND 60", () -> {
            WindBay bay = calm();
            // 3 behind the other one's LEAD for each SECOND: by WIND 15 at 58, 59 and 60
            Due.law(bay, "t/58*15-t/59*15");
            Due.is("WIND at 58", bay.wind(58), 15);
            // the first goes RIGHT then, and gains 3 less; the other one LEFT, and gains 3 more
            Due.is("WIND at 58 counts", bay.lead(0, 0, 3, 1, 0), -54 - 6);
            Due.law(bay, "t/59*15-t/60*15");
            Due.is("WIND at 59 counts", bay.lead(0, 0, 3, 1, 0), -54 - 6);
            Due.law(bay, "t/60*15");
            Due.is("WIND at 60 doesn't", bay.lead(0, 0, 3, 1, 0), -54);
        });
        Due.sentence("17: y less how far from x 0 by 2, cut", () -> {
            WindBay bay = calm();
            // turned at 10 and 30 they come to x 160 and what they had more, RIGHT; y 324
            Due.is("161 and 160", bay.lead(1, 0, 3, 5, 5), 0);
            Due.is("162 and 160", bay.lead(2, 0, 3, 5, 5), -1);
            Due.is("162 and 161", bay.lead(2, 1, 3, 5, 5), -1);
            Due.is("163 and 162", bay.lead(3, 2, 3, 5, 5), 0);
            Due.is("-161 and -160", bay.lead(-1, 0, 0, 5, 5), 0);
            Due.is("-160 and -162", bay.lead(0, -2, 0, 5, 5), 1);
            Due.is("-161 and 162", bay.lead(-1, 2, 2, 5, 5), 1);
        });
        Due.sentence("17: BAD AIR counts", () -> {
            WindBay bay = new WindBay();
            bay.set(0, 400);
            Due.law(bay, "0-5");
            // from -1 out at 26, 6 ahead of the other one at 200, which is slowed as its turn is by at 28
            Due.is("slowed once", calm().lead(0, -1, 3, 0, 0), (340 - 28) - (342 - 24));
            // they meet at 5, 10 apart in y, and at 57, 12 apart: 2 less each time for the other one
            Due.is("slowed twice", bay.lead(0, 80, 1, 0, 0), (340 - 32) - (332 - 8));
        });
    }

    private static void leadOfWhoIsIn() {
        Due.sentence("17: (who is IN counts DIST): less than its y", () -> {
            WindBay bay = new WindBay();
            bay.set(0, 42);
            Due.law(bay, "0-10-20*((t+93)/100)");
            // the first is IN at 7 with y 48; the other one out at 50, at DIST with y 52, x -136 at 60
            Due.is("of the first", bay.lead(-56, 200, 1, 0, 0), 42 - (52 - 68));
            Due.is("of the other", bay.lead(200, -56, 2, 0, 0), (52 - 68) - 42);
        });
        Due.sentence("17: (who is IN counts DIST): both", () -> {
            WindBay bay = new WindBay();
            bay.set(0, 40);
            Due.law(bay, "5");
            // RIGHT 5 and LEFT 7 a SECOND: y 40 and 42, both IN at 8
            Due.is("IN with y 40 and 42", bay.lead(-64, 64, 1, 0, 0), 0);
        });
        Due.sentence("17: .. who is at DIST, but not IN, counts y less half of x", () -> {
            WindBay bay = new WindBay();
            bay.set(0, 340);
            // the first at DIST at 59, x -56; the other one out at 47, x -112 at 60
            Due.is("not IN", bay.lead(0, 0, 3, 0, 1), (342 - 24) - (336 - 56));
        });
    }

    private static int lead(WindBay bay, int bits, int others) {
        return bay.lead(0, 20, 3, bits, others);
    }

    private static void safe() {
        Due.sentence("18: -1000000001", () -> {
            WindBay bay = new WindBay();
            Due.all("x", x -> bay.safe(x, 0, 0, 0), FAR, -201, 201, MIN, MAX);
            Due.all("other", x -> bay.safe(0, x, 0, 0), FAR, -201, 201, MIN, MAX);
            Due.all("ways", ways -> bay.safe(0, 0, ways, 0), FAR, -1, 4, MIN, MAX);
            Due.all("what", what -> bay.safe(0, 0, 0, what), FAR, -1, 2, MIN, MAX);
        });
        Due.sentence("18: the greatest LEAD .. the first can be sure of: over its bits the least over the other's", () -> {
            for (String law : new String[] {"0", "t%40-20", "0-10"}) {
                WindBay bay = calm();
                Due.law(bay, law);
                int most = MIN;
                int surest = -1;
                for (int bits = 0; bits < 16; bits++) {
                    int least = MAX;
                    for (int others = 0; others < 16; others++) {
                        least = Math.min(least, lead(bay, bits, others));
                    }
                    surest = least > most ? bits : surest;
                    most = Math.max(most, least);
                }
                Due.is("the LEAD by " + law, bay.safe(0, 20, 3, 0), most);
                Due.is("its bits by " + law, bay.safe(0, 20, 3, 1), surest);
            }
        });
        Due.sentence("18: its bits (the least of several)", () -> {
            WindBay bay = new WindBay();
            bay.set(0, 40);
            Due.is("IN, whatever they do", bay.safe(0, 0, 3, 0), 0);
            Due.is("of 16", bay.safe(0, 0, 3, 1), 0);
        });
        Due.sentence("18: a LEAD below 0", () -> {
            WindBay bay = calm();
            bay.set(0, 400);
            Due.is("-1 and less are no refusals", bay.safe(200, 0, 3, 0) < 0 ? 1 : 0, 1);
        });
    }

    /** A bay and a GAME, told apart by a number. */
    private static WindBay some(int n) {
        WindBay bay = new WindBay();
        String[] laws = {"t%40-20", "20-t%40", "(t/10%2*2-1)*20", "(t+s)%30-15", "(t/15%2*2-1)*30", "0"};
        Due.law(bay, laws[n % 6]);
        bay.set(0, 400);
        bay.set(3, n % 5);
        bay.set(4, n * 7 % 40);
        return bay;
    }

    private static void everyBits() {
        Due.sentence("18, 19: bits 0 .. 15 each: all are tried, and no others", () -> {
            boolean[] surests = new boolean[16];
            boolean[] worsts = new boolean[16];
            for (int n = 0; n <= 250; n++) {
                int x = n * 37 % 401 - 200;
                int other = n * 53 % 401 - 200;
                WindBay bay = some(n);
                int most = MIN;
                int surest = -1;
                int alike = 0;
                for (int bits = 0; bits < 16; bits++) {
                    int least = MAX;
                    int worst = -1;
                    int ties = 0;
                    for (int others = 0; others < 16; others++) {
                        int lead = bay.lead(x, other, n % 4, bits, others);
                        ties = lead < least ? 1 : lead == least ? ties + 1 : ties;
                        worst = lead < least ? others : worst;
                        least = Math.min(least, lead);
                    }
                    Due.is("answer " + n, bay.answer(x, other, n % 4, bits), worst);
                    worsts[worst] |= ties == 1;
                    alike = least > most ? 1 : least == most ? alike + 1 : alike;
                    surest = least > most ? bits : surest;
                    most = Math.max(most, least);
                }
                Due.is("safe, LEAD " + n, bay.safe(x, other, n % 4, 0), most);
                Due.is("safe, bits " + n, bay.safe(x, other, n % 4, 1), surest);
                surests[surest] |= alike == 1;
            }
            for (int bits = 0; bits < 16; bits++) {
                Due.is("the only worst was " + bits, worsts[bits] ? 1 : 0, 1);
                Due.is("the only surest was " + bits, surests[bits] ? 1 : 0, 1);
            }
        });
    }

    private static void answer() {
        Due.sentence("19: -1", () -> {
            WindBay bay = new WindBay();
            Due.all("x", x -> bay.answer(x, 0, 0, 0), -1, -201, 201, MIN, MAX);
            Due.all("other", x -> bay.answer(0, x, 0, 0), -1, -201, 201, MIN, MAX);
            Due.all("ways", ways -> bay.answer(0, 0, ways, 0), -1, -1, 4, MIN, MAX);
            Due.all("bits", bits -> bay.answer(0, 0, 0, bits), -1, -1, 16, MIN, MAX);
            Due.is("bits 15", bay.answer(200, -200, 3, 15) >= 0 ? 1 : 0, 1);
        });
        Due.sentence("19: the other's bits by which LEAD is least against told ones", () -> {
            WindBay bay = calm();
            for (int bits = 0; bits < 16; bits++) {
                int worst = 0;
                for (int others = 1; others < 16; others++) {
                    worst = lead(bay, bits, others) < lead(bay, bits, worst) ? others : worst;
                }
                Due.is("against " + bits, bay.answer(0, 20, 3, bits), worst);
            }
        });
        Due.sentence("19: of several the least", () -> {
            WindBay bay = new WindBay();
            bay.set(0, 40);
            for (int bits = 0; bits < 16; bits++) {
                Due.is("IN, whatever they do", bay.answer(0, 0, 3, bits), 0);
            }
        });
    }

    private static void cover() {
        Due.sentence("20: -1000000001", () -> {
            WindBay bay = new WindBay();
            Due.all("x", x -> bay.cover(x, 0, 0, 0), FAR, -201, 201, MIN, MAX);
            Due.all("other", x -> bay.cover(0, x, 0, 0), FAR, -201, 201, MIN, MAX);
            Due.all("ways", ways -> bay.cover(0, 0, ways, 0), FAR, -1, 4, MIN, MAX);
            Due.all("others", bits -> bay.cover(0, 0, 0, bits), FAR, -1, 16, MIN, MAX);
        });
        Due.sentence("20: the first turns as that one does (the same bits)", () -> {
            WindBay bay = calm();
            for (int others = 0; others < 16; others++) {
                Due.is("bits " + others, bay.cover(0, 20, 3, others), lead(bay, others, others));
                Due.is("side by side", bay.cover(0, 0, 3, others), 0);
            }
        });
        Due.sentence("20: edges", () -> {
            WindBay bay = new WindBay();
            bay.set(0, 400);
            Due.is("both at edges", bay.cover(-200, 200, 1, 15), 0);
        });
    }

    private static void aloneInMind() {
        Due.sentence("17 to 20: two BOATS alone, in mind", () -> {
            WindBay bay = calm();
            Due.law(bay, "t%40-20");
            int lead = bay.lead(0, 4, 3, 6, 9);
            int safe = bay.safe(0, 4, 3, 0);
            int answer = bay.answer(0, 4, 3, 6);
            int cover = bay.cover(0, 4, 3, 6);
            for (int i = 0; i < 4; i++) {
                bay.boat(i, 3 * i, true, 1);
            }
            bay.go(31);
            Due.is("lead", bay.lead(0, 4, 3, 6, 9), lead);
            Due.is("safe", bay.safe(0, 4, 3, 0), safe);
            Due.is("answer", bay.answer(0, 4, 3, 6), answer);
            Due.is("cover", bay.cover(0, 4, 3, 6), cover);
            Due.is("SECOND", bay.count(1), 31);
            Due.is("BOATS", bay.count(0), 4);
        });
    }
}
