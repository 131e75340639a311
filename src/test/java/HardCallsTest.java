import java.util.Arrays;
import java.util.Random;

/** Calls with arguments of all sorts in all states: none throws, and a refused one changes nothing. */
public final class HardCallsTest {
    private static final int[] HARD = {
        0, 0, 0, 1, 1, 1, 2, 3, 4, 5, 6, 7, 8, 9, 10, 15, 16, 20, 21, 40, 41, 60, 99, 100, 101, 127, 128, 200, 201,
        255, 256, 400, 401, -1, -2, -100, -128, -129, -200, -201, 32767, 32768, -32768, 65536, 999, 1000,
        Integer.MAX_VALUE, Integer.MIN_VALUE, Integer.MAX_VALUE - 1, Integer.MIN_VALUE + 1, 1 << 30, -(1 << 30)};
    private static final String TEXT = "ts0123456789()+-*/%";

    /** An object is used for at most so many calls. */
    private static final int MOST_CALLS = 512;
    /** At most so many calls does oneCall make beside the looks. */
    private static final int ONE_CALL = 13;
    private static final int LOOKS = 204;

    private final Random random;
    private final WindBay bay = new WindBay();
    private int lastCall;
    private int calls;

    private HardCallsTest(long seed) {
        random = new Random(seed);
    }

    public static void main(String[] args) {
        for (long seed = 1; seed <= 1200; seed++) {
            HardCallsTest test = new HardCallsTest(seed);
            // one call of a run in two is looked at, as looks are many calls
            int looked = seed % 2 == 0 ? test.random.nextInt(60) : -1;
            int spared = seed % 2 == 0 ? 2 * LOOKS : 0;
            for (int i = 0; test.calls + spared + ONE_CALL <= MOST_CALLS; i++) {
                test.oneCall(seed, i, i == looked);
                spared = i == looked ? 0 : spared;
            }
        }
        Due.end();
    }

    private void oneCall(long seed, int i, boolean looked) {
        long[] before = looked ? looks() : null;
        long answer;
        try {
            calls++;
            answer = call();
        } catch (RuntimeException e) {
            System.out.println("run " + seed + ", call " + i + ", of sort " + lastCall + " threw " + e);
            Due.is("a call that throws", 1, 0);
            return;
        }
        if (looked && isRefusal(answer)) {
            Due.is("run " + seed + ", a refused call of sort " + lastCall + " changed nothing, answer " + answer,
                Arrays.equals(before, looks()) ? 1 : 0, 1);
        }
        Due.is("calls", calls <= MOST_CALLS ? 1 : 0, 1);
    }

    private static boolean isRefusal(long answer) {
        return answer <= -1000000001L || answer == -1 || answer == -2 || answer == -3 || answer <= -11 && answer >= -15
            || answer <= -100 && answer >= -200;
    }

    private int any() {
        return HARD[random.nextInt(HARD.length)];
    }

    private int some(int n) {
        return random.nextInt(5) == 0 ? any() : random.nextInt(n);
    }

    private int x() {
        return random.nextInt(5) == 0 ? any() : random.nextInt(401) - 200;
    }

    private boolean way() {
        return random.nextBoolean();
    }

    private long call() {
        lastCall = random.nextInt(36);
        switch (lastCall) {
            case 0: return bay.set(some(5), random.nextBoolean() ? some(10) : some(400));
            case 1: return bay.fault(some(8));
            case 2: return bay.law(some(8));
            case 3: return bay.wind(some(401));
            case 4: return bay.boat(some(8), x(), way(), some(41));
            case 5: return bay.of(some(4), some(8));
            case 6: return bay.badAir(some(4));
            case 7: return bay.go(some(30));
            case 8: return bay.turn(some(4));
            case 9: return random.nextInt(3) == 0 ? bay.anew() : 0;
            case 10: return bay.place(some(6));
            case 11: return bay.ends(some(4));
            case 12: return bay.tacks(x(), way(), some(256));
            case 13: return bay.best(x(), way(), some(2));
            case 14: return random.nextInt(4) == 0 ? bay.sides() * 0 : 0;
            case 15: return lead(bay.lead(x(), x(), some(4), some(16), some(16)));
            case 16: return random.nextInt(4) == 0 ? lead(bay.safe(x(), x(), some(4), some(2))) : 0;
            case 17: return bay.answer(x(), x(), some(4), some(16));
            case 18: return lead(bay.cover(x(), x(), some(4), some(16)));
            case 19: return bay.which(some(8));
            case 20: return bay.read(some(4), some(8));
            case 21: return bay.worth(some(101), some(21));
            case 22: return bay.pairs();
            case 23: return bay.image();
            case 24: return bay.restore();
            case 25: return bay.count(some(6));
            case 26: return bay.keep(some(8), some(2), some(4));
            case 27: return bay.row(some(8), some(3), some(101));
            case 28: return bay.put(some(8), some(12), any());
            case 29: return element(some(8), some(12));
            case 30: return bay.copy(some(8), some(12), some(8), some(12), some(8));
            case 31: return lead(bay.skill(some(8)));
            case 32: return bay.toss(some(8));
            case 33: return text(some(8));
            case 34: return ints(random.nextInt(8));
            default: return bay.put(random.nextInt(8), random.nextInt(10), TEXT.charAt(random.nextInt(TEXT.length())));
        }
    }

    /** A number below 0 is no refusal where numbers below 0 are answered. */
    private static long lead(int answer) {
        return answer > -1000000000 ? 0 : answer;
    }

    private long element(int d, int i) {
        try {
            return bay.element(d, i) * 0;
        } catch (IllegalArgumentException e) {
            Due.is("no such SHELF", d < 0 || d > 7 ? 1 : 0, 1);
            return -1;
        } catch (IllegalStateException e) {
            Due.is("such a SHELF", d >= 0 && d < 8 ? 1 : 0, 1);
            return -13;
        }
    }

    private long text(int d) {
        int n = random.nextInt(12);
        calls += n;
        if (bay.row(d, 0, n) != 0) {
            return 0;
        }
        boolean atom = true;
        for (int i = 0; i < n; i++) {
            String signs = random.nextInt(9) == 0 ? TEXT : atom ? "ts19" : "+-*/%";
            bay.put(d, i, signs.charAt(random.nextInt(signs.length())));
            atom = !atom;
        }
        return 0;
    }

    private long ints(int d) {
        int n = random.nextInt(12);
        calls += n;
        bay.row(d, 2, n);
        for (int i = 0; i < n; i++) {
            bay.put(d, i, any());
        }
        return 0;
    }

    private long[] looks() {
        calls += LOOKS;
        long[] all = new long[260];
        int k = 0;
        for (int i = 0; i < 4; i++) {
            for (int what = 0; what < 8; what++) {
                all[k++] = bay.of(i, what);
            }
            all[k++] = bay.badAir(i);
            all[k++] = bay.place(i + 1);
            all[k++] = bay.ends(i);
        }
        for (int i = 0; i < 6; i++) {
            all[k++] = bay.count(i);
        }
        for (int t = 0; t <= 400; t += 20) {
            all[k++] = bay.wind(t);
        }
        for (int d = 0; d < 8; d++) {
            all[k++] = bay.which(d);
            all[k++] = bay.fault(d);
            all[k++] = bay.skill(d);
            all[k++] = bay.toss(d);
            for (int i = 0; i < 12; i++) {
                try {
                    all[k++] = bay.element(d, i);
                } catch (IllegalStateException e) {
                    all[k - 1] = Long.MIN_VALUE;
                }
            }
        }
        all[k++] = bay.tacks(10, true, 37);
        all[k++] = bay.lead(10, 14, 3, 7, 9);
        return all;
    }
}
