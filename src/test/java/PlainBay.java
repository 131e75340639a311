import java.util.ArrayList;
import java.util.Comparator;
import java.util.List;

/**
 * The bay once more, as plainly as the document tells it and without a thought of speed: what it
 * answers is compared with what WindBay answers. It takes no wrong arguments.
 */
final class PlainBay {
    static final class Sailing implements Cloneable {
        int number;
        int kind;
        int figure;
        int x;
        int y;
        int way;
        int turn;
        Integer in;
        int turns;
        int bits = -1;

        Sailing copy() {
            try {
                return (Sailing) clone();
            } catch (CloneNotSupportedException e) {
                throw new AssertionError(e);
            }
        }
    }

    int dist = 200;
    int tide = 0;
    int shore = 100;
    int cost = 2;
    int seed = 0;
    String law = "0";
    List<Sailing> start = new ArrayList<>();
    List<Sailing> boats = new ArrayList<>();
    int second = 0;

    PlainBay copy() {
        PlainBay other = new PlainBay();
        other.dist = dist;
        other.tide = tide;
        other.shore = shore;
        other.cost = cost;
        other.seed = seed;
        other.law = law;
        other.start = copies(start);
        other.boats = copies(boats);
        other.second = second;
        return other;
    }

    private static List<Sailing> copies(List<Sailing> some) {
        List<Sailing> all = new ArrayList<>();
        for (Sailing one : some) {
            all.add(one.copy());
        }
        return all;
    }

    // the LAW: read and worked out at once; what can't go on is an Unreadable at its place

    static final class Unreadable extends Exception {
        private static final long serialVersionUID = 1;
        final int place;

        Unreadable(int place) {
            this.place = place;
        }
    }

    private static final class Reader {
        final String text;
        final int t;
        final int s;
        int at = 0;

        Reader(String text, int t, int s) {
            this.text = text;
            this.t = t;
            this.s = s;
        }

        boolean sees(String signs) {
            return at < text.length() && signs.indexOf(text.charAt(at)) >= 0;
        }

        int sum(int deep) throws Unreadable {
            int sum = product(deep);
            while (sees("+-")) {
                char sign = text.charAt(at++);
                int next = product(deep);
                sum = sign == '+' ? sum + next : sum - next;
            }
            return sum;
        }

        int product(int deep) throws Unreadable {
            int product = atom(deep);
            while (sees("*/%")) {
                char sign = text.charAt(at++);
                int next = atom(deep);
                if (sign == '*') {
                    product = (int) ((long) product * next);
                } else if (next == 0) {
                    product = 0;
                } else {
                    product = (int) (sign == '/' ? (long) product / next : (long) product % next);
                }
            }
            return product;
        }

        int atom(int deep) throws Unreadable {
            if (sees("t")) {
                at++;
                return t;
            }
            if (sees("s")) {
                at++;
                return s;
            }
            if (sees("0")) {
                at++;
                return 0;
            }
            if (sees("123456789")) {
                int begin = at;
                while (at < begin + 3 && sees("0123456789")) {
                    at++;
                }
                return Integer.parseInt(text.substring(begin, at));
            }
            if (sees("(") && deep < 6) {
                at++;
                int inner = sum(deep + 1);
                if (!sees(")")) {
                    throw new Unreadable(at);
                }
                at++;
                return inner;
            }
            throw new Unreadable(at);
        }
    }

    private static int read(String text, int t, int s) throws Unreadable {
        Reader reader = new Reader(text, t, s);
        int value = reader.sum(0);
        if (reader.at < text.length()) {
            throw new Unreadable(reader.at);
        }
        return value;
    }

    static int fault(String text) {
        try {
            read(text, 0, 0);
            return -4;
        } catch (Unreadable e) {
            return e.place;
        }
    }

    int wind(int at) {
        try {
            int value = read(law, at, seed);
            return value < -40 ? -40 : value > 40 ? 40 : value;
        } catch (Unreadable e) {
            throw new AssertionError(law);
        }
    }

    // BOATS and the RACE

    int boat(int kind, int x, boolean right, int figure) {
        Sailing one = new Sailing();
        one.number = boats.size();
        one.kind = kind;
        one.figure = figure;
        one.x = x;
        one.way = right ? 1 : -1;
        start.add(one.copy());
        boats.add(one.copy());
        return one.number;
    }

    void anew() {
        boats = copies(start);
        second = 0;
    }

    boolean over() {
        return second == 400 || !boats.isEmpty() && boats.stream().allMatch(b -> b.in != null);
    }

    static boolean badAir(Sailing one, List<Sailing> all) {
        return one.in == null && all.stream().anyMatch(
            o -> o.in == null && o.y > one.y && o.y - one.y < 21 && Math.abs(o.x - one.x) < 7);
    }

    private int up(Sailing b, int wind) {
        return 6 - b.way * (wind / 5);
    }

    private int tideAt(int x) {
        return x >= -shore && x <= shore ? tide : tide / 2;
    }

    void step() {
        int wind = wind(second);
        List<Sailing> ahead = copies(boats);
        for (Sailing b : boats) {
            move(b, wind, badAir(ahead.get(b.number), ahead));
        }
        second++;
        for (Sailing b : boats) {
            if (b.in == null && b.x == 0 && b.y >= dist) {
                b.in = second;
            }
        }
        List<Sailing> now = copies(boats);
        for (Sailing b : boats) {
            if (b.in == null && b.turn == 0 && b.y < dist && wantsTurn(now.get(b.number), now, wind(second))) {
                turn(b);
            }
        }
    }

    private void move(Sailing b, int wind, boolean slow) {
        if (b.in != null) {
            return;
        }
        if (b.y >= dist) {
            int left = Math.max(0, Math.abs(b.x) - 8);
            b.x = b.x < 0 ? -left : left;
            return;
        }
        if (b.turn > 0) {
            b.turn--;
            b.y = Math.max(0, b.y - tideAt(b.x));
            return;
        }
        int gain = up(b, wind) - (slow ? 2 : 0) - tideAt(b.x);
        b.y += gain > 0 ? gain : 0;
        b.x = Math.max(-200, Math.min(200, b.x + 8 * b.way));
    }

    void turn(Sailing b) {
        b.way = -b.way;
        b.turn = cost;
        b.turns++;
    }

    private boolean wantsTurn(Sailing b, List<Sailing> now, int wind) {
        if (b.x == 200 * b.way) {
            return true;
        }
        if (b.bits >= 0) {
            return second % 10 == 0 && second <= 80 && (b.bits & 1 << second / 10 - 1) != 0;
        }
        boolean headed = b.way * (wind / 5) >= b.figure / 5 + 1;
        boolean aside = b.x * b.way >= 5 * b.figure;
        boolean fouled = badAir(b, now);
        int times = b.figure > 0 && second % (5 * b.figure) == 0 ? second / (5 * b.figure) : 0;
        switch (b.kind) {
            case 0:
                return times > 0;
            case 1:
                return headed;
            case 2:
                return fouled;
            case 3:
                Sailing covered = now.get((b.number + now.size() - 1) % now.size());
                return fouled || covered.number != b.number && covered.way != b.way && covered.y < b.y;
            case 4:
                return times % 2 == 1;
            case 5:
                return aside;
            case 6:
                return aside || b.x * b.way > 0 && 8 * (dist - b.y) / 6 <= Math.abs(b.x);
            default:
                return headed && (cost <= 2 || second % 10 == 0);
        }
    }

    void go(int n) {
        for (int i = 0; i < n && !over(); i++) {
            step();
        }
    }

    static int height(Sailing b) {
        return b.y - Math.abs(b.x) / 2;
    }

    List<Sailing> places() {
        List<Sailing> all = copies(boats);
        all.sort(Comparator.comparingInt((Sailing b) -> b.in == null ? 1000 : b.in)
            .thenComparingInt(b -> -height(b)).thenComparingInt(b -> b.number));
        return all;
    }

    int placeOf(int number) {
        List<Sailing> all = places();
        for (int i = 0; i < all.size(); i++) {
            if (all.get(i).number == number) {
                return i + 1;
            }
        }
        throw new AssertionError();
    }

    PlainBay atTheEnd() {
        PlainBay end = copy();
        end.go(400);
        return end;
    }

    int worth(int lead, int n) {
        int won = 0;
        for (int s = 0; s < n; s++) {
            PlainBay mind = copy();
            mind.seed = s;
            Sailing first = mind.boats.get(0);
            if (first.y < dist) {
                first.y = Math.min(dist, first.y + lead);
            }
            mind.go(400);
            won += mind.placeOf(0) < mind.placeOf(1) ? 1 : 0;
        }
        return won;
    }

    // alone, two

    private PlainBay empty() {
        PlainBay other = copy();
        other.start.clear();
        other.boats.clear();
        other.second = 0;
        return other;
    }

    int tacks(int x, boolean right, int bits) {
        PlainBay alone = empty();
        alone.boat(0, x, right, 0);
        alone.boats.get(0).bits = bits;
        alone.go(400);
        Integer in = alone.boats.get(0).in;
        return in == null ? 400 : in;
    }

    /** SECONDS times 256, and bits. */
    int best(int x, boolean right) {
        int best = Integer.MAX_VALUE;
        for (int bits = 0; bits < 256; bits++) {
            best = Math.min(best, tacks(x, right, bits) * 256 + bits);
        }
        return best;
    }

    int sides() {
        return Math.min(best(100, true), best(100, false)) / 256 - Math.min(best(-100, true), best(-100, false)) / 256;
    }

    int lead(int x, int other, int ways, int bits, int others) {
        PlainBay game = empty();
        game.boat(0, x, ways % 2 == 1, 0);
        game.boat(0, other, ways / 2 == 1, 0);
        game.boats.get(0).bits = bits;
        game.boats.get(1).bits = others;
        for (int i = 0; i < 60; i++) {
            game.step();
        }
        int[] counted = new int[2];
        for (Sailing b : game.boats) {
            counted[b.number] = b.in != null ? dist : height(b);
        }
        return counted[0] - counted[1];
    }
}
