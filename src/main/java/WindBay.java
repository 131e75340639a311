import java.util.Arrays;

/**
 * A bay of shifting winds in which up to four boats beat up to a buoy.
 * The document (../shared/DOC.md) says what each call answers.
 */
public final class WindBay {
    private static final int MOST_BOATS = 4;
    private static final int SHELVES = 8;
    private static final int LONGEST_ROW = 100;
    private static final int LAST_SECOND = 400;
    private static final int EDGE = 200;
    private static final int SPEED = 8;
    private static final int MOST_FIGURE = 40;

    private static final int DIST = 0;
    private static final int TIDE = 1;
    private static final int SHORE = 2;
    private static final int COST = 3;
    private static final int SEED = 4;
    private static final int[] LEAST_SETTING = {40, 0, 0, 0, 0};
    private static final int[] MOST_SETTING = {400, 3, 200, 9, 999};

    private static final int TURN = 0;
    private static final int HEADED = 1;
    private static final int FORCED = 2;
    private static final int COVERING = 3;
    private static final int FEIGNED = 4;
    private static final int SIDE = 5;
    private static final int LAST = 6;
    private static final int COSTLY = 7;
    /** No KIND of the document: turns at SECONDS 10, 20, .. by the bits of its FIGURE. */
    private static final int BY_BITS = 8;

    private static final int TACKS_BITS = 8;
    private static final int ALL_TACKS = 256;
    private static final int ALL_GAME_BITS = 16;
    private static final int GAME_SECONDS = 60;

    private static final int BYTES = 0;
    private static final int SHORTS = 1;
    private static final int INTS = 2;

    private static final int NOTHING = 0;
    private static final int SAILOR = 1;
    private static final int ROW = 2;

    private static final int DEEPEST = 6;
    private static final int WIND_LIMIT = 40;

    private static final int WRONG = -1;
    private static final int NO_ROOM = -2;
    private static final int NOT_NOW = -3;
    private static final int NONE = -4;
    private static final int EMPTY = -11;
    private static final int OTHER_KIND = -12;
    private static final int NO_PLACE = -13;
    private static final int SIZE_BELOW_0 = -14;
    private static final int NO_FAILURE = -15;
    private static final int FAULT_BASE = -100;
    /** What refusals are less where numbers below 0 may be answered. */
    private static final int FAR_BELOW = -1000000000;

    private final Bay bay = new Bay();
    private final Race race = new Race();
    private final Bay imageBay = new Bay();
    private final Race imageRace = new Race();
    private boolean imageTaken;
    /** What goes by in mind alone uses these again and again, so that no call makes objects. */
    private final Bay mindBay = new Bay();
    private final Race mind = new Race();
    private final Shelf[] shelves = new Shelf[SHELVES];

    public WindBay() {
        for (int i = 0; i < shelves.length; i++) {
            shelves[i] = new Shelf();
        }
    }

    // ---- the bay

    public int set(int what, int n) {
        if (!Bay.isSetting(what, n)) {
            return WRONG;
        }
        if (what == DIST && race.reaches(n)) {
            return NOT_NOW;
        }
        return bay.change(what, n);
    }

    public int fault(int d) {
        Shelf shelf = shelfAt(d);
        if (shelf == null) {
            return WRONG;
        }
        int refusal = shelf.textRefusal();
        return refusal != 0 ? refusal : Law.faultIn(shelf.elements, shelf.size);
    }

    public int law(int d) {
        Shelf shelf = shelfAt(d);
        if (shelf == null) {
            return WRONG;
        }
        int refusal = shelf.textRefusal();
        if (refusal != 0) {
            return refusal;
        }
        int place = Law.faultIn(shelf.elements, shelf.size);
        if (place != NONE) {
            return FAULT_BASE - place;
        }
        bay.tellLaw(shelf.elements, shelf.size);
        return 1;
    }

    public int wind(int second) {
        if (second < 0 || second > LAST_SECOND) {
            return FAR_BELOW + WRONG;
        }
        return bay.windAt(second);
    }

    // ---- boats, the race

    public int boat(int kind, int x, boolean right, int figure) {
        if (kind < TURN || kind > COSTLY || !isInBay(x) || figure < 0 || figure > MOST_FIGURE) {
            return WRONG;
        }
        if (race.isFull()) {
            return NO_ROOM;
        }
        if (race.second > 0) {
            return NOT_NOW;
        }
        return race.enter(kind, x, right, figure);
    }

    public int of(int boat, int what) {
        Boat asked = race.boatAt(boat);
        if (asked == null || what < 0 || what > 7) {
            return FAR_BELOW + WRONG;
        }
        return asked.tells(what);
    }

    public int badAir(int boat) {
        Boat asked = race.boatAt(boat);
        if (asked == null) {
            return WRONG;
        }
        race.tellBadAir();
        return asked.inBadAir ? 1 : 0;
    }

    public int go(int n) {
        if (n < 1 || n > 100) {
            return WRONG;
        }
        if (race.number == 0 || race.hasEnded()) {
            return NOT_NOW;
        }
        race.goOn(bay, n);
        return race.second;
    }

    public int turn(int boat) {
        Boat asked = race.boatAt(boat);
        if (asked == null) {
            return WRONG;
        }
        if (!asked.canTurn(bay)) {
            return NOT_NOW;
        }
        asked.comeAbout(bay.cost);
        return bay.cost;
    }

    public int anew() {
        race.beginAnew();
        return race.number;
    }

    public int place(int n) {
        return n < 1 ? WRONG : race.boatAtPlace(n);
    }

    public int ends(int boat) {
        if (race.boatAt(boat) == null) {
            return WRONG;
        }
        endInMind();
        return mind.placeOf(mind.boatAt(boat));
    }

    // ---- alone

    public int tacks(int x, boolean right, int bits) {
        if (!isInBay(x) || bits < 0 || bits >= ALL_TACKS) {
            return WRONG;
        }
        return secondsAlone(x, right, bits);
    }

    public int best(int x, boolean right, int what) {
        if (!isInBay(x) || what < 0 || what > 1) {
            return WRONG;
        }
        int least = bestAlone(x, right);
        return what == 0 ? least % ALL_TACKS : least / ALL_TACKS;
    }

    public int sides() {
        int right = Math.min(bestAlone(100, false), bestAlone(100, true)) / ALL_TACKS;
        int left = Math.min(bestAlone(-100, false), bestAlone(-100, true)) / ALL_TACKS;
        return right - left;
    }

    // ---- two

    public int lead(int x, int other, int ways, int bits, int others) {
        if (!isGame(x, other, ways) || !isGameBits(bits) || !isGameBits(others)) {
            return FAR_BELOW + WRONG;
        }
        return gameLead(x, other, ways, bits, others);
    }

    public int safe(int x, int other, int ways, int what) {
        if (!isGame(x, other, ways) || what < 0 || what > 1) {
            return FAR_BELOW + WRONG;
        }
        int surest = 0;
        int most = Math.floorDiv(worstGame(x, other, ways, 0), ALL_GAME_BITS);
        for (int bits = 1; bits < ALL_GAME_BITS; bits++) {
            int sure = Math.floorDiv(worstGame(x, other, ways, bits), ALL_GAME_BITS);
            if (sure > most) {
                most = sure;
                surest = bits;
            }
        }
        return what == 0 ? most : surest;
    }

    public int answer(int x, int other, int ways, int bits) {
        if (!isGame(x, other, ways) || !isGameBits(bits)) {
            return WRONG;
        }
        return Math.floorMod(worstGame(x, other, ways, bits), ALL_GAME_BITS);
    }

    public int cover(int x, int other, int ways, int others) {
        if (!isGame(x, other, ways) || !isGameBits(others)) {
            return FAR_BELOW + WRONG;
        }
        return gameLead(x, other, ways, others, others);
    }

    // ---- what winds and tracks tell

    public int which(int d) {
        Shelf shelf = shelfAt(d);
        if (shelf == null) {
            return WRONG;
        }
        int refusal = shelf.rowRefusal();
        return refusal != 0 ? refusal : shelf.swing();
    }

    public int read(int boat, int d) {
        Shelf shelf = shelfAt(d);
        if (shelf == null || race.boatAt(boat) == null) {
            return WRONG;
        }
        int refusal = shelf.rowRefusal();
        return refusal != 0 ? refusal : firstNotSo(boat, shelf);
    }

    public int worth(int lead, int n) {
        if (lead < 0 || lead > 100 || n < 1 || n > 20) {
            return WRONG;
        }
        if (race.number < 2) {
            return NOT_NOW;
        }
        mindBay.take(bay);
        int won = 0;
        for (int seed = 0; seed < n; seed++) {
            mindBay.change(SEED, seed);
            if (firstWinsWith(lead)) {
                won++;
            }
        }
        return won;
    }

    public int pairs() {
        if (race.number != MOST_BOATS) {
            return NOT_NOW;
        }
        endInMind();
        return mind.placeOf(mind.boatAt(0)) + mind.placeOf(mind.boatAt(1));
    }

    // ---- the image, what is told

    public int image() {
        imageBay.take(bay);
        imageRace.take(race);
        imageTaken = true;
        return race.second;
    }

    public int restore() {
        if (!imageTaken) {
            return NOT_NOW;
        }
        bay.take(imageBay);
        race.take(imageRace);
        return race.second;
    }

    public int count(int what) {
        switch (what) {
            case 0:
                return race.number;
            case 1:
                return race.second;
            case 2:
                return race.howManyIn();
            case 3:
                return race.allTurns();
            case 4:
                return race.howManyInBadAir();
            case 5:
                return bay.dist;
            default:
                return WRONG;
        }
    }

    // ---- shelves

    public int keep(int d, int what, int k) {
        Shelf shelf = shelfAt(d);
        if (shelf == null || what < 0 || what > 1) {
            return WRONG;
        }
        if (what == 0) {
            shelf.holds = NOTHING;
            return 0;
        }
        Boat kept = race.boatAt(k);
        if (kept == null) {
            return WRONG;
        }
        shelf.holdSailor(kept.sailor);
        return 0;
    }

    public int row(int d, int sort, int n) {
        Shelf shelf = shelfAt(d);
        if (shelf == null || sort < BYTES || sort > INTS || n > LONGEST_ROW) {
            return WRONG;
        }
        if (n < 0) {
            return SIZE_BELOW_0;
        }
        shelf.holdRow(sort, n);
        return 0;
    }

    public int put(int d, int i, int v) {
        Shelf shelf = shelfAt(d);
        if (shelf == null) {
            return WRONG;
        }
        int refusal = shelf.rowRefusal();
        if (refusal != 0) {
            return refusal;
        }
        if (!shelf.hasPlace(i)) {
            return NO_PLACE;
        }
        shelf.elements[i] = shelf.narrowed(v);
        return 0;
    }

    public long element(int d, int i) throws IllegalArgumentException, IllegalStateException {
        Shelf shelf = shelfAt(d);
        if (shelf == null) {
            throw new IllegalArgumentException("no such SHELF");
        }
        if (shelf.holds != ROW) {
            throw new IllegalStateException("no ROW");
        }
        if (!shelf.hasPlace(i)) {
            throw new IllegalStateException("no such place");
        }
        return shelf.elements[i];
    }

    public int copy(int d, int i, int e, int j, int n) {
        Shelf from = shelfAt(d);
        Shelf to = shelfAt(e);
        if (from == null || to == null) {
            return WRONG;
        }
        if (from.holds == NOTHING || to.holds == NOTHING) {
            return EMPTY;
        }
        if (from.holds != ROW || to.holds != ROW || from.sort != to.sort) {
            return OTHER_KIND;
        }
        if (!from.hasStretch(i, n) || !to.hasStretch(j, n)) {
            return NO_PLACE;
        }
        System.arraycopy(from.elements, i, to.elements, j, n);
        return n;
    }

    public int skill(int d) {
        Shelf shelf = shelfAt(d);
        if (shelf == null) {
            return FAR_BELOW + WRONG;
        }
        int refusal = shelf.sailorRefusal();
        return refusal != 0 ? FAR_BELOW + refusal : shelf.sailor.skilled();
    }

    public int toss(int d) {
        Shelf shelf = shelfAt(d);
        if (shelf == null) {
            return WRONG;
        }
        int refusal = shelf.sailorRefusal();
        if (refusal != 0) {
            return refusal;
        }
        try {
            shelf.sailor.fail();
        } catch (IllegalStateException thrown) {
            return shelf.sailor.failureNumber();
        }
        return NO_FAILURE;
    }

    // ---- what the calls share

    private Shelf shelfAt(int d) {
        return d >= 0 && d < shelves.length ? shelves[d] : null;
    }

    private static boolean isInBay(int x) {
        return x >= -EDGE && x <= EDGE;
    }

    private static boolean isGame(int x, int other, int ways) {
        return isInBay(x) && isInBay(other) && ways >= 0 && ways <= 3;
    }

    private static boolean isGameBits(int bits) {
        return bits >= 0 && bits < ALL_GAME_BITS;
    }

    private void endInMind() {
        mind.take(race);
        mind.goOn(bay, LAST_SECOND);
    }

    private int secondsAlone(int x, boolean right, int bits) {
        mind.clear();
        mind.enter(BY_BITS, x, right, bits);
        mind.goOn(bay, LAST_SECOND);
        return mind.second;
    }

    /** The SECONDS of the BEST TACKS times ALL_TACKS, and their bits: the least is the best. */
    private int bestAlone(int x, boolean right) {
        int least = secondsAlone(x, right, 0) * ALL_TACKS;
        for (int k = 0; k < TACKS_BITS; k++) {
            // a turn no earlier than the best so far is IN can't make a boat faster than that
            if ((k + 1) * 10 >= least / ALL_TACKS) {
                break;
            }
            for (int bits = 1 << k; bits < 2 << k; bits++) {
                least = Math.min(least, secondsAlone(x, right, bits) * ALL_TACKS + bits);
            }
        }
        return least;
    }

    private int gameLead(int x, int other, int ways, int bits, int others) {
        mind.clear();
        mind.enter(BY_BITS, x, (ways & 1) != 0, bits);
        mind.enter(BY_BITS, other, (ways & 2) != 0, others);
        mind.goOn(bay, GAME_SECONDS);
        return mind.leadOfFirst(bay.dist);
    }

    /** LEAD times ALL_GAME_BITS, and the other's bits: the least of these is the ANSWER's. */
    private int worstGame(int x, int other, int ways, int bits) {
        int worst = gameLead(x, other, ways, bits, 0) * ALL_GAME_BITS;
        for (int others = 1; others < ALL_GAME_BITS; others++) {
            int lead = gameLead(x, other, ways, bits, others);
            worst = Math.min(worst, lead * ALL_GAME_BITS + others);
        }
        return worst;
    }

    private int firstNotSo(int boat, Shelf told) {
        mind.take(race);
        Boat tracked = mind.boatAt(boat);
        for (int i = 0; tracked != null && i < told.size; i++) {
            mind.goOn(bay, 1);
            if (told.tellsAt(i) && told.elements[i] != tracked.y) {
                return i;
            }
        }
        return NONE;
    }

    private boolean firstWinsWith(int lead) {
        mind.take(race);
        Boat first = mind.boatAt(0);
        Boat other = mind.boatAt(1);
        if (first == null || other == null) {
            return false;
        }
        first.gain(lead, mindBay.dist);
        mind.goOn(mindBay, LAST_SECOND);
        return first.isAheadOf(other);
    }

    /** The settings and the LAW. */
    private static final class Bay {
        /** No WIND: that of this SECOND isn't worked out yet. */
        private static final int UNKNOWN = 100;

        int dist = 200;
        int tide;
        int shore = 100;
        int cost = 2;
        int seed;
        final Law law = new Law();
        /** WINDS are asked for again and again, but change with LAW and SEED alone. */
        final int[] winds = new int[LAST_SECOND + 1];

        Bay() {
            Arrays.fill(winds, UNKNOWN);
        }

        static boolean isSetting(int what, int n) {
            return what >= 0 && what < LEAST_SETTING.length && what < MOST_SETTING.length
                && n >= LEAST_SETTING[what] && n <= MOST_SETTING[what];
        }

        int change(int what, int n) {
            int was = setting(what);
            switch (what) {
                case DIST:
                    dist = n;
                    break;
                case TIDE:
                    tide = n;
                    break;
                case SHORE:
                    shore = n;
                    break;
                case COST:
                    cost = n;
                    break;
                default:
                    seed = n;
                    Arrays.fill(winds, UNKNOWN);
                    break;
            }
            return was;
        }

        int setting(int what) {
            switch (what) {
                case DIST:
                    return dist;
                case TIDE:
                    return tide;
                case SHORE:
                    return shore;
                case COST:
                    return cost;
                default:
                    return seed;
            }
        }

        void tellLaw(int[] text, int size) {
            law.tell(text, size);
            Arrays.fill(winds, UNKNOWN);
        }

        void take(Bay other) {
            dist = other.dist;
            tide = other.tide;
            shore = other.shore;
            cost = other.cost;
            seed = other.seed;
            law.take(other.law);
            Arrays.fill(winds, UNKNOWN);
        }

        int windAt(int second) {
            if (second < 0 || second >= winds.length) {
                return 0;
            }
            if (winds[second] == UNKNOWN) {
                int swung = law.valueAt(second, seed);
                winds[second] = Math.max(-WIND_LIMIT, Math.min(WIND_LIMIT, swung));
            }
            return winds[second];
        }

        int tideAt(int x) {
            return Math.abs(x) <= shore ? tide : tide / 2;
        }
    }

    /** The LAW of the WIND, kept as steps: a sign stands behind the two parts that it joins. */
    private static final class Law {
        /** Steps that are no NUMBER; a sign's step is less than these: its byte, below 0. */
        private static final int THE_SECOND = -1;
        private static final int THE_SEED = -2;

        private final int[] steps = new int[LONGEST_ROW];
        private int size;
        /** Signs and open brackets whose last part isn't told yet. */
        private final int[] waiting = new int[LONGEST_ROW];
        private int waits;
        /** What is worked out and isn't joined yet. */
        private final int[] parts = new int[LONGEST_ROW];

        /** The FAULT; NONE, if the text is a LAW. */
        static int faultIn(int[] text, int size) {
            int open = 0;
            int moreDigits = 0;
            boolean atomWanted = true;
            for (int i = 0; i < size && i < text.length; i++) {
                int c = text[i];
                if (atomWanted && c == '(' && open < DEEPEST) {
                    open++;
                } else if (atomWanted && (isDigit(c) || c == 't' || c == 's')) {
                    atomWanted = false;
                    moreDigits = isDigit(c) && c != '0' ? 2 : 0;
                } else if (!atomWanted && isDigit(c) && moreDigits > 0) {
                    moreDigits--;
                } else if (!atomWanted && (isSumSign(c) || isProductSign(c))) {
                    atomWanted = true;
                } else if (!atomWanted && c == ')' && open > 0) {
                    open--;
                    moreDigits = 0;
                } else {
                    return i;
                }
            }
            return atomWanted || open > 0 ? size : NONE;
        }

        private static boolean isDigit(int c) {
            return c >= '0' && c <= '9';
        }

        private static boolean isSumSign(int c) {
            return c == '+' || c == '-';
        }

        private static boolean isProductSign(int c) {
            return c == '*' || c == '/' || c == '%';
        }

        void take(Law other) {
            size = Math.max(0, Math.min(other.size, steps.length));
            System.arraycopy(other.steps, 0, steps, 0, size);
        }

        /** A text without FAULT is told. */
        void tell(int[] text, int length) {
            size = 0;
            waits = 0;
            int number = 0;
            for (int i = 0; i < length && i < text.length; i++) {
                int c = text[i];
                if (isDigit(c)) {
                    number = number * 10 + c - '0';
                    if (i + 1 >= length || i + 1 >= text.length || !isDigit(text[i + 1])) {
                        addStep(number);
                        number = 0;
                    }
                } else if (c == 't' || c == 's') {
                    addStep(c == 't' ? THE_SECOND : THE_SEED);
                } else {
                    tellSign(c);
                }
            }
            endWaits(1);
        }

        private void tellSign(int c) {
            if (c == ')') {
                endWaits(1);
                waits = Math.max(0, waits - 1);
                return;
            }
            if (c != '(') {
                endWaits(tightness(c));
            }
            if (waits >= 0 && waits < waiting.length) {
                waiting[waits] = c;
                waits++;
            }
        }

        private void addStep(int step) {
            if (size >= 0 && size < steps.length) {
                steps[size] = step;
                size++;
            }
        }

        /** The waiting signs that join at least so tightly, back to the last open bracket, have both parts. */
        private void endWaits(int least) {
            while (waits > 0 && waits <= waiting.length && tightness(waiting[waits - 1]) >= least) {
                waits--;
                addStep(-waiting[waits]);
            }
        }

        private static int tightness(int c) {
            if (isProductSign(c)) {
                return 2;
            }
            return isSumSign(c) ? 1 : 0;
        }

        /** Without a LAW told there is no step. */
        int valueAt(int second, int seed) {
            int worked = 0;
            for (int i = 0; i < size && i < steps.length; i++) {
                int step = steps[i];
                if (step < THE_SEED && worked >= 2 && worked <= parts.length) {
                    worked--;
                    parts[worked - 1] = joined(-step, parts[worked - 1], parts[worked]);
                } else if (step >= THE_SEED && worked < parts.length) {
                    parts[worked] = step >= 0 ? step : step == THE_SECOND ? second : seed;
                    worked++;
                }
            }
            return worked == 0 ? 0 : parts[0];
        }

        private static int joined(int sign, int a, int b) {
            switch (sign) {
                case '+':
                    return a + b;
                case '-':
                    return a - b;
                case '*':
                    return a * b;
                case '/':
                    return b == 0 ? 0 : a / b;
                default:
                    return b == 0 ? 0 : a % b;
            }
        }
    }

    /** The sailor of a BOAT. */
    private static final class Sailor {
        int kind;
        int figure;
        int boat;

        void become(int newKind, int newFigure, int newBoat) {
            kind = newKind;
            figure = newFigure;
            boat = newBoat;
        }

        int skilled() {
            switch (kind) {
                case HEADED:
                    return 10 + figure;
                case FORCED:
                    return 13;
                case COVERING:
                    return 26;
                case FEIGNED:
                    return 10 - figure;
                case SIDE:
                    return 15;
                case LAST:
                    return 15 + figure;
                case COSTLY:
                    return (10 + figure) / 2;
                default:
                    return 10;
            }
        }

        private boolean hasFailure() {
            return kind != FEIGNED && figure > 0;
        }

        void fail() {
            if (hasFailure()) {
                throw new IllegalStateException("a FAILURE");
            }
        }

        int failureNumber() {
            switch (kind) {
                case LAST:
                    return 200 + skilled();
                case COVERING:
                    return 100 + boat;
                default:
                    return boat;
            }
        }
    }

    /** A BOAT, where it began and where it is. */
    private static final class Boat {
        final Sailor sailor = new Sailor();
        int startX;
        boolean startRight;
        int x;
        int y;
        boolean right;
        int turnLeft;
        /** The SECOND at which it was IN; NONE till then. */
        int in = NONE;
        int turns;
        /** Told of all BOATS ahead of any one's move or turn, as they go all at once. */
        boolean inBadAir;
        boolean aboutToTurn;

        void comeToStart(int newX, boolean newRight) {
            startX = newX;
            startRight = newRight;
            beginAnew();
        }

        void beginAnew() {
            x = startX;
            y = 0;
            right = startRight;
            turnLeft = 0;
            in = NONE;
            turns = 0;
        }

        void take(Boat other) {
            sailor.become(other.sailor.kind, other.sailor.figure, other.sailor.boat);
            startX = other.startX;
            startRight = other.startRight;
            x = other.x;
            y = other.y;
            right = other.right;
            turnLeft = other.turnLeft;
            in = other.in;
            turns = other.turns;
        }

        int tells(int what) {
            switch (what) {
                case 0:
                    return sailor.kind;
                case 1:
                    return x;
                case 2:
                    return y;
                case 3:
                    return right ? 1 : 0;
                case 4:
                    return turnLeft;
                case 5:
                    return in;
                case 6:
                    return sailor.figure;
                default:
                    return turns;
            }
        }

        boolean isIn() {
            return in != NONE;
        }

        /** One SECOND, which is the one of this number once it went by. */
        void sail(Bay bay, int wind, int second) {
            if (isIn()) {
                return;
            }
            if (y >= bay.dist) {
                x = x > 0 ? Math.max(0, x - SPEED) : Math.min(0, x + SPEED);
            } else if (turnLeft > 0) {
                turnLeft--;
                y = Math.max(0, y - bay.tideAt(x));
            } else {
                int up = right ? 6 - wind / 5 : 6 + wind / 5;
                up -= (inBadAir ? 2 : 0) + bay.tideAt(x);
                y += Math.max(0, up);
                x = right ? Math.min(EDGE, x + SPEED) : Math.max(-EDGE, x - SPEED);
            }
            if (y >= bay.dist && x == 0) {
                in = second;
            }
        }

        boolean canTurn(Bay bay) {
            return !isIn() && turnLeft == 0 && y < bay.dist;
        }

        void comeAbout(int cost) {
            right = !right;
            turnLeft = cost;
            turns++;
        }

        boolean goesOut() {
            return right ? x >= EDGE : x <= -EDGE;
        }

        /** Of a TURN: at each multiple of 5 times FIGURE. */
        boolean turnsAt(int second) {
            int every = 5 * sailor.figure;
            return every > 0 && second % every == 0;
        }

        /** Of a FEIGNED: at odd multiples alone. */
        boolean turnsOddlyAt(int second) {
            int every = 5 * sailor.figure;
            return every > 0 && second % (2 * every) == every;
        }

        boolean isHeadedBy(int wind) {
            int taken = right ? wind / 5 : -(wind / 5);
            return taken >= sailor.figure / 5 + 1;
        }

        boolean isFarAside() {
            return (right ? x : -x) >= 5 * sailor.figure;
        }

        boolean isOnItsLast(int dist) {
            boolean goesAway = right ? x > 0 : x < 0;
            return goesAway && SPEED * (dist - y) / 6 <= Math.abs(x);
        }

        boolean turnsByBitsAt(int second) {
            int turn = second / 10 - 1;
            return second % 10 == 0 && turn >= 0 && turn < TACKS_BITS
                && (sailor.figure >> turn & 1) == 1;
        }

        boolean fouls(Boat other) {
            int ahead = y - other.y;
            return in == NONE && other.in == NONE && ahead >= 1 && ahead <= 20
                && Math.abs(x - other.x) <= 6;
        }

        void gain(int lead, int dist) {
            y = Math.max(y, Math.min(dist, y + lead));
        }

        int height() {
            return y - Math.abs(x) / 2;
        }

        boolean isAheadOf(Boat other) {
            if (in != other.in) {
                return isIn() && (!other.isIn() || in < other.in);
            }
            if (height() != other.height()) {
                return height() > other.height();
            }
            return sailor.boat < other.sailor.boat;
        }
    }

    /** BOATS and the SECOND. */
    private static final class Race {
        final Boat[] boats = new Boat[MOST_BOATS];
        int number;
        int second;

        Race() {
            for (int i = 0; i < boats.length; i++) {
                boats[i] = new Boat();
            }
        }

        Boat boatAt(int i) {
            return i >= 0 && i < number && i < boats.length ? boats[i] : null;
        }

        boolean isFull() {
            return number >= boats.length;
        }

        void clear() {
            number = 0;
            second = 0;
        }

        int enter(int kind, int x, boolean right, int figure) {
            if (number < 0 || isFull()) {
                return NO_ROOM;
            }
            Boat boat = boats[number];
            boat.sailor.become(kind, figure, number);
            boat.comeToStart(x, right);
            number++;
            return boat.sailor.boat;
        }

        void take(Race other) {
            number = other.number;
            second = other.second;
            for (int i = 0; i < boats.length && i < other.boats.length; i++) {
                boats[i].take(other.boats[i]);
            }
        }

        void beginAnew() {
            second = 0;
            for (int i = 0; i < number && i < boats.length; i++) {
                boats[i].beginAnew();
            }
        }

        boolean reaches(int dist) {
            for (int i = 0; i < number && i < boats.length; i++) {
                if (boats[i].y >= dist) {
                    return true;
                }
            }
            return false;
        }

        boolean hasEnded() {
            return second >= LAST_SECOND || number > 0 && howManyIn() == number;
        }

        void goOn(Bay bay, int seconds) {
            for (int i = 0; i < seconds && !hasEnded(); i++) {
                step(bay, bay.windAt(second), bay.windAt(second + 1));
            }
        }

        private void step(Bay bay, int wind, int windNow) {
            tellBadAir();
            second++;
            for (int i = 0; i < number && i < boats.length; i++) {
                boats[i].sail(bay, wind, second);
            }
            tellBadAir();
            for (int i = 0; i < number && i < boats.length; i++) {
                Boat boat = boats[i];
                boat.aboutToTurn = boat.canTurn(bay)
                    && (boat.goesOut() || wantsToTurn(boat, bay, windNow));
            }
            for (int i = 0; i < number && i < boats.length; i++) {
                if (boats[i].aboutToTurn) {
                    boats[i].comeAbout(bay.cost);
                }
            }
        }

        private boolean wantsToTurn(Boat boat, Bay bay, int wind) {
            switch (boat.sailor.kind) {
                case TURN:
                    return boat.turnsAt(second);
                case HEADED:
                    return boat.isHeadedBy(wind);
                case FORCED:
                    return boat.inBadAir;
                case COVERING:
                    return boat.inBadAir || hasToCover(boat);
                case FEIGNED:
                    return boat.turnsOddlyAt(second);
                case SIDE:
                    return boat.isFarAside();
                case LAST:
                    return boat.isFarAside() || boat.isOnItsLast(bay.dist);
                case COSTLY:
                    return boat.isHeadedBy(wind) && (bay.cost <= 2 || second % 10 == 0);
                default:
                    return boat.turnsByBitsAt(second);
            }
        }

        private boolean hasToCover(Boat boat) {
            int ahead = boat.sailor.boat > 0 ? boat.sailor.boat - 1 : number - 1;
            if (ahead < 0 || ahead >= boats.length || boats[ahead] == boat) {
                return false;
            }
            return boats[ahead].right != boat.right && boats[ahead].y < boat.y;
        }

        void tellBadAir() {
            for (int i = 0; i < number && i < boats.length; i++) {
                boats[i].inBadAir = false;
                for (int j = 0; j < number && j < boats.length; j++) {
                    if (boats[j].fouls(boats[i])) {
                        boats[i].inBadAir = true;
                    }
                }
            }
        }

        int howManyIn() {
            int in = 0;
            for (int i = 0; i < number && i < boats.length; i++) {
                in += boats[i].isIn() ? 1 : 0;
            }
            return in;
        }

        int howManyInBadAir() {
            tellBadAir();
            int fouled = 0;
            for (int i = 0; i < number && i < boats.length; i++) {
                fouled += boats[i].inBadAir ? 1 : 0;
            }
            return fouled;
        }

        int allTurns() {
            int turns = 0;
            for (int i = 0; i < number && i < boats.length; i++) {
                turns += boats[i].turns;
            }
            return turns;
        }

        int placeOf(Boat boat) {
            int place = 1;
            for (int i = 0; boat != null && i < number && i < boats.length; i++) {
                place += boats[i].isAheadOf(boat) ? 1 : 0;
            }
            return place;
        }

        int boatAtPlace(int place) {
            for (int i = 0; i < number && i < boats.length; i++) {
                if (placeOf(boats[i]) == place) {
                    return i;
                }
            }
            return NONE;
        }

        /** In a GAME, who is IN counts DIST. */
        int leadOfFirst(int dist) {
            Boat first = boatAt(0);
            Boat other = boatAt(1);
            if (first == null || other == null) {
                return 0;
            }
            return (first.isIn() ? dist : first.height()) - (other.isIn() ? dist : other.height());
        }
    }

    /** A SHELF: nothing, a sailor, or a ROW; room for each is made once. */
    private static final class Shelf {
        int holds = NOTHING;
        final Sailor sailor = new Sailor();
        int sort;
        int size;
        final int[] elements = new int[LONGEST_ROW];

        void holdSailor(Sailor kept) {
            holds = SAILOR;
            sailor.become(kept.kind, kept.figure, kept.boat);
        }

        void holdRow(int newSort, int newSize) {
            holds = ROW;
            sort = newSort;
            size = newSize;
            Arrays.fill(elements, 0);
        }

        int rowRefusal() {
            if (holds == NOTHING) {
                return EMPTY;
            }
            return holds == ROW ? 0 : OTHER_KIND;
        }

        int textRefusal() {
            int refusal = rowRefusal();
            return refusal == 0 && sort != BYTES ? OTHER_KIND : refusal;
        }

        int sailorRefusal() {
            if (holds == NOTHING) {
                return EMPTY;
            }
            return holds == SAILOR ? 0 : OTHER_KIND;
        }

        boolean hasPlace(int i) {
            return i >= 0 && i < size && i < elements.length;
        }

        boolean hasStretch(int from, int n) {
            return from >= 0 && from <= size && n >= 0 && n <= size - from;
        }

        int narrowed(int v) {
            switch (sort) {
                case BYTES:
                    return (byte) v;
                case SHORTS:
                    return (short) v;
                default:
                    return v;
            }
        }

        /** Of a ROW of y's: the least number of the SORT tells nothing. */
        boolean tellsAt(int i) {
            switch (sort) {
                case BYTES:
                    return hasPlace(i) && elements[i] != -128;
                case SHORTS:
                    return hasPlace(i) && elements[i] != -32768;
                default:
                    return hasPlace(i) && elements[i] != -2147483648;
            }
        }

        /** WHICH of a ROW of WINDS: 1 TO AND FRO, 2 ON, 0 neither. */
        int swing() {
            int steps = 0;
            int swings = 0;
            int wayBefore = 0;
            for (int i = 1; i < size && i < elements.length; i++) {
                int way = Integer.compare(elements[i], elements[i - 1]);
                if (way != 0) {
                    steps++;
                    swings += way + wayBefore == 0 ? 1 : 0;
                    wayBefore = way;
                }
            }
            if (steps < 3) {
                return 0;
            }
            return 3 * swings >= steps ? 1 : 2;
        }
    }
}
