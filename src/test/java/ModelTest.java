import java.util.Random;

/** Long runs of calls, answered alike by WindBay and by PlainBay (the seeds are written here). */
public final class ModelTest {
    /** An object is used for at most 512 calls; these are left for the last of them. */
    private static final int MOST_CALLS = 512 - 130;

    private final Random random;
    private final String run;
    private final WindBay used = new WindBay();
    private int calls;
    private PlainBay plain = new PlainBay();
    private PlainBay image = null;

    private ModelTest(long seed) {
        random = new Random(seed);
        run = "run " + seed + ", ";
    }

    public static void main(String[] args) {
        for (long seed = 1; seed <= 1500; seed++) {
            ModelTest test = new ModelTest(seed);
            while (test.calls < MOST_CALLS) {
                test.call();
                if (test.below(5) == 0) {
                    test.all();
                }
            }
            test.all();
            Due.is("calls", test.calls <= 512 ? 1 : 0, 1);
        }
        for (long seed = 1; seed <= 12; seed++) {
            ModelTest test = new ModelTest(1000 + seed);
            test.settings();
            test.law();
            test.alone();
            test.two();
        }
        faults();
        Due.end();
    }

    private WindBay bay() {
        calls++;
        return used;
    }

    private int below(int n) {
        return random.nextInt(n);
    }

    private int x() {
        int[] xs = {-200, -100, -8, -4, 0, 3, 6, 12, 100, 196, 200};
        return random.nextBoolean() ? xs[below(xs.length)] : below(401) - 200;
    }

    private void call() {
        switch (below(14)) {
            case 0:
                settings();
                break;
            case 1:
                law();
                break;
            case 2:
            case 3:
            case 4:
                enter();
                break;
            case 5:
            case 6:
            case 7:
                go();
                break;
            case 8:
                turn();
                break;
            case 9:
                images();
                break;
            case 10:
                if (below(3) == 0) {
                    Due.is(run + "anew", bay().anew(), plain.boats.size());
                    plain.anew();
                }
                break;
            case 11:
                inMind();
                break;
            case 12:
                track();
                break;
            default:
                if (below(8) == 0) {
                    Due.is(run + "tacks", bay().tacks(40, true, 45), plain.tacks(40, true, 45));
                }
                break;
        }
    }

    private void settings() {
        int dist = below(3) == 0 ? 40 + below(361) : 40 + below(120);
        boolean reached = plain.boats.stream().anyMatch(b -> b.y >= dist);
        Due.is(run + "set DIST", bay().set(0, dist), reached ? -3 : plain.dist);
        plain.dist = reached ? plain.dist : dist;
        int tide = below(4);
        Due.is(run + "set TIDE", bay().set(1, tide), plain.tide);
        plain.tide = tide;
        int shore = below(201);
        Due.is(run + "set SHORE", bay().set(2, shore), plain.shore);
        plain.shore = shore;
        int cost = below(10);
        Due.is(run + "set COST", bay().set(3, cost), plain.cost);
        plain.cost = cost;
        int seed = below(1000);
        Due.is(run + "set SEED", bay().set(4, seed), plain.seed);
        plain.seed = seed;
    }

    private String someLaw(int deep) {
        StringBuilder text = new StringBuilder();
        int parts = 1 + below(3);
        for (int i = 0; i < parts; i++) {
            if (i > 0) {
                text.append("+-*/%".charAt(below(5)));
            }
            int sort = below(5);
            if (sort == 0 && deep < 3) {
                text.append('(').append(someLaw(deep + 1)).append(')');
            } else if (sort < 3) {
                text.append("ts".charAt(below(2)));
            } else {
                text.append(below(sort == 3 ? 50 : 1000));
            }
        }
        return text.toString();
    }

    private void law() {
        String[] laws = {"t%40-20", "t*s%81-40", "(t+s)%50-25", "t/2-20", "(t/10%2*2-1)*30", "20-t"};
        String text = below(3) > 0 ? laws[below(laws.length)] : someLaw(0);
        if (text.length() > 100) {
            return;
        }
        calls += text.length() + 2;
        Due.law(used, text);
        plain.law = text;
        for (int t : new int[] {0, 1, 39, 400, below(401)}) {
            Due.is(run + "wind by " + text, bay().wind(t), plain.wind(t));
        }
    }

    private void enter() {
        int kind = below(8);
        int x = below(2) == 0 ? below(30) - 15 : x();
        boolean right = random.nextBoolean();
        int figure = below(2) == 0 ? below(5) : below(41);
        int got = bay().boat(kind, x, right, figure);
        if (plain.boats.size() == 4) {
            Due.is(run + "boat", got, -2);
        } else if (plain.second > 0) {
            Due.is(run + "boat", got, -3);
        } else {
            Due.is(run + "boat", got, plain.boat(kind, x, right, figure));
        }
    }

    private void go() {
        int n = below(3) == 0 ? 1 + below(100) : 1 + below(12);
        int got = bay().go(n);
        if (plain.boats.isEmpty() || plain.over()) {
            Due.is(run + "go", got, -3);
        } else {
            plain.go(n);
            Due.is(run + "go", got, plain.second);
        }
    }

    private void turn() {
        int i = below(4);
        int got = bay().turn(i);
        if (i >= plain.boats.size()) {
            Due.is(run + "turn", got, -1);
            return;
        }
        PlainBay.Sailing boat = plain.boats.get(i);
        if (boat.in != null || boat.turn > 0 || boat.y >= plain.dist) {
            Due.is(run + "turn", got, -3);
        } else {
            plain.turn(boat);
            Due.is(run + "turn", got, plain.cost);
        }
    }

    private void images() {
        if (random.nextBoolean()) {
            Due.is(run + "image", bay().image(), plain.second);
            image = plain.copy();
        } else if (image == null) {
            Due.is(run + "restore", bay().restore(), -3);
        } else {
            Due.is(run + "restore", bay().restore(), image.second);
            plain = image.copy();
        }
    }

    private void inMind() {
        PlainBay end = plain.atTheEnd();
        for (int i = 0; i < 4; i++) {
            Due.is(run + "ends", bay().ends(i), i < plain.boats.size() ? end.placeOf(i) : -1);
        }
        Due.is(run + "pairs", bay().pairs(), plain.boats.size() == 4 ? end.placeOf(0) + end.placeOf(1) : -3);
        int lead = below(101);
        int n = 1 + below(4);
        Due.is(run + "worth", bay().worth(lead, n), plain.boats.size() < 2 ? -3 : plain.worth(lead, n));
    }

    private void track() {
        int i = below(4);
        PlainBay mind = plain.copy();
        int sort = 1 + below(2);
        int size = below(60);
        bay().row(6, sort, size);
        int due = i < plain.boats.size() ? -4 : -1;
        for (int k = 0; k < size; k++) {
            mind.go(1);
            int y = i < plain.boats.size() ? mind.boats.get(i).y : 0;
            boolean skipped = below(9) == 0;
            boolean wrong = !skipped && below(80) == 0;
            bay().put(6, k, skipped ? (sort == 1 ? Short.MIN_VALUE : Integer.MIN_VALUE) : wrong ? y + 1 : y);
            due = wrong && due == -4 ? k : due;
        }
        Due.is(run + "read", bay().read(i, 6), due);
    }

    private void all() {
        Due.is(run + "BOATS", bay().count(0), plain.boats.size());
        Due.is(run + "SECOND", bay().count(1), plain.second);
        Due.is(run + "IN", bay().count(2), plain.boats.stream().filter(b -> b.in != null).count());
        Due.is(run + "turns", bay().count(3), plain.boats.stream().mapToInt(b -> b.turns).sum());
        Due.is(run + "in BAD AIR", bay().count(4), plain.boats.stream().filter(b -> PlainBay.badAir(b, plain.boats)).count());
        Due.is(run + "DIST", bay().count(5), plain.dist);
        for (PlainBay.Sailing b : plain.boats) {
            int[] told = {b.kind, b.x, b.y, b.way > 0 ? 1 : 0, b.turn, b.in == null ? -4 : b.in, b.figure, b.turns};
            for (int what = 0; what < 8; what++) {
                Due.is(run + "of(" + b.number + ", " + what + ")", bay().of(b.number, what), told[what]);
            }
            Due.is(run + "badAir", bay().badAir(b.number), PlainBay.badAir(b, plain.boats) ? 1 : 0);
            Due.is(run + "place", bay().place(b.number + 1), plain.places().get(b.number).number);
        }
        Due.is(run + "place", bay().place(plain.boats.size() + 1), -4);
    }

    private void alone() {
        for (int i = 0; i < 20; i++) {
            int x = x();
            int bits = below(256);
            boolean right = random.nextBoolean();
            Due.is(run + "tacks", bay().tacks(x, right, bits), plain.tacks(x, right, bits));
        }
        int x = x();
        boolean right = random.nextBoolean();
        int best = plain.best(x, right);
        Due.is(run + "best bits", bay().best(x, right, 0), best % 256);
        Due.is(run + "best SECONDS", bay().best(x, right, 1), best / 256);
        Due.is(run + "sides", bay().sides(), plain.sides());
    }

    private void two() {
        int x = x();
        int other = below(3) > 0 ? Math.max(-200, Math.min(200, x + below(21) - 10)) : x();
        int ways = below(4);
        int surest = 0;
        int most = Integer.MIN_VALUE;
        for (int bits = 0; bits < 16; bits++) {
            int worst = 0;
            int least = Integer.MAX_VALUE;
            for (int others = 0; others < 16; others++) {
                int lead = plain.lead(x, other, ways, bits, others);
                if (others == bits * 7 % 16) {
                    Due.is(run + "lead", bay().lead(x, other, ways, bits, others), lead);
                }
                worst = lead < least ? others : worst;
                least = Math.min(least, lead);
            }
            Due.is(run + "answer", bay().answer(x, other, ways, bits), worst);
            Due.is(run + "cover", bay().cover(x, other, ways, bits), plain.lead(x, other, ways, bits, bits));
            surest = least > most ? bits : surest;
            most = Math.max(most, least);
        }
        Due.is(run + "safe, LEAD", bay().safe(x, other, ways, 0), most);
        Due.is(run + "safe, bits", bay().safe(x, other, ways, 1), surest);
    }

    private static void faults() {
        ModelTest test = new ModelTest(77);
        for (int i = 0; i < 3000; i++) {
            StringBuilder text = new StringBuilder(test.someLaw(0));
            for (int k = test.below(4); k > 0 && text.length() > 0; k--) {
                text.setCharAt(test.below(text.length()), "ts0123456789()+-*/%((()) x".charAt(test.below(26)));
            }
            if (test.below(3) == 0) {
                text.setLength(test.below(text.length() + 1));
            }
            String deep = test.below(4) == 0 ? "((((((((".substring(test.below(6)) : "";
            String tried = deep + text;
            if (tried.length() > 100) {
                continue;
            }
            WindBay bay = new WindBay();
            Due.text(bay, 0, tried);
            Due.is("fault of " + tried, bay.fault(0), PlainBay.fault(tried));
        }
    }
}
