/** Boundary cases of promises 1 to 5 (a new object, set, fault, law, wind), sentence by sentence. */
public final class EdgesBayTest {
    private static final int MIN = Integer.MIN_VALUE;
    private static final int MAX = Integer.MAX_VALUE;
    private static final int FAR = -1000000000;

    public static void main(String[] args) {
        newObjects();
        settings();
        textsThatAreNone();
        faultsOfNumbers();
        faultsOfSigns();
        lawsToldOrNot();
        winds();
        Due.end();
    }

    private static void newObjects() {
        Due.sentence("1: No BOATS", EdgesBayTest::noBoats);
        Due.sentence("1: SECOND 0", EdgesBayTest::secondZero);
        Due.sentence("1: DIST .. 200 at first, TIDE .. 0, SHORE .. 100, COST .. 2, SEED .. 0", EdgesBayTest::settingsAtFirst);
        Due.sentence("1: SHELVES 0 .. 7 each hold nothing (at first)", EdgesBayTest::shelvesAtFirst);
        Due.sentence("1: a new object has nothing of another one", EdgesBayTest::nothingOfAnother);
        Due.sentence("1: at most 512 calls: the last of them", EdgesBayTest::lastCall);
        Due.sentence("1: at most 512 calls: the last of them, the dearest", EdgesBayTest::lastDearCall);
    }

    private static void noBoats() {
        WindBay bay = new WindBay();
        Due.is("BOATS", bay.count(0), 0);
        Due.is("of", bay.of(0, 0), FAR - 1);
        Due.is("place", bay.place(1), -4);
        Due.is("anew", bay.anew(), 0);
        Due.is("IN", bay.count(2), 0);
        Due.is("turns", bay.count(3), 0);
        Due.is("in BAD AIR", bay.count(4), 0);
        Due.is("the first to come", bay.boat(0, 0, true, 0), 0);
    }

    private static void secondZero() {
        WindBay bay = new WindBay();
        Due.is("SECOND", bay.count(1), 0);
        Due.is("image", bay.image(), 0);
        bay.boat(0, 0, true, 0);
        Due.is("the first to go by", bay.go(1), 1);
    }

    private static void settingsAtFirst() {
        int[] first = {200, 0, 100, 2, 0};
        int[] told = {41, 3, 7, 9, 12};
        for (int what = 0; what < 5; what++) {
            Due.is("set(" + what + ")", new WindBay().set(what, told[what]), first[what]);
        }
        Due.is("count of DIST", new WindBay().count(5), 200);
    }

    private static void shelvesAtFirst() {
        WindBay bay = new WindBay();
        for (int d = 0; d < 8; d++) {
            Due.is("which", bay.which(d), -11);
            Due.is("put", bay.put(d, 0, 0), -11);
            Due.is("toss", bay.toss(d), -11);
        }
    }

    private static void nothingOfAnother() {
        WindBay other = new WindBay();
        other.set(0, 300);
        other.boat(0, 0, true, 1);
        Due.law(other, "9");
        other.keep(0, 1, 0);
        other.go(5);
        other.image();
        WindBay bay = new WindBay();
        Due.is("BOATS", bay.count(0), 0);
        Due.is("SECOND", bay.count(1), 0);
        Due.is("DIST", bay.count(5), 200);
        Due.is("WIND", bay.wind(0), 0);
        Due.is("SHELF 0", bay.skill(0), FAR - 11);
        Due.is("SHELF 7", bay.fault(7), -11);
        Due.is("THE IMAGE", bay.restore(), -3);
        bay.set(0, 40);
        Due.is("the other's stay its own", other.count(5), 300);
    }

    private static void lastCall() {
        WindBay bay = new WindBay();
        bay.boat(0, 0, true, 2);
        bay.set(1, 3);
        bay.set(3, 9);
        for (int call = 4; call < 512; call++) {
            if (call < 404) {
                bay.go(1);
            } else {
                bay.wind(call - 110);
            }
        }
        Due.is("call 512: the turns of a TURN in 400 SECONDS", bay.of(0, 7), 40);
    }

    private static void lastDearCall() {
        WindBay bay = new WindBay();
        int first = bay.safe(0, 3, 3, 0);
        for (int call = 2; call < 512; call++) {
            bay.safe(call % 200, 3, 3, 0);
        }
        Due.is("call 512", bay.safe(0, 3, 3, 0), first);
    }

    private static void settings() {
        Due.sentence("2: DIST 40 .. 400", () -> range(0, 40, 400, 200));
        Due.sentence("2: TIDE (0 .. 3; 0 at first)", () -> range(1, 0, 3, 0));
        Due.sentence("2: SHORE (0 .. 200; 100 at first)", () -> range(2, 0, 200, 100));
        Due.sentence("2: COST of a turn (0 .. 9 SECONDS; 2 at first)", () -> range(3, 0, 9, 2));
        Due.sentence("2: SEED (0 .. 999; 0 at first)", () -> range(4, 0, 999, 0));
        Due.sentence("2: -1: no such thing (what 0 .. 4)", EdgesBayTest::noSuchSetting);
        Due.sentence("2: what it was", EdgesBayTest::whatItWas);
        Due.sentence("2: -3: DIST, a BOAT is at that", EdgesBayTest::boatAtDist);
        Due.sentence("2: -3: DIST, a BOAT is .. beyond", EdgesBayTest::boatBeyondDist);
        Due.sentence("2: -3: DIST, whichever BOAT it is", EdgesBayTest::anyBoatAtDist);
        Due.sentence("2: -3: DIST, a BOAT that is IN is at that, too", EdgesBayTest::boatInAtDist);
        Due.sentence("2: -3: DIST alone", EdgesBayTest::othersWhateverBoats);
        Due.sentence("2: a BOAT that was there is there no more", EdgesBayTest::boatWasAtDist);
        Due.sentence("2: of several refusals the first one: -1 ahead of -3", EdgesBayTest::wrongAheadOfBoats);
        Due.sentence("2: A refused call changes nothing", EdgesBayTest::refusedSettings);
    }

    private static void range(int what, int least, int most, int first) {
        WindBay bay = new WindBay();
        Due.all("set(" + what + ")", n -> bay.set(what, n), -1, least - 1, most + 1, MIN, MAX, -1 - most);
        Due.is("the most, refused as it was", bay.set(what, most), first);
        Due.is("the least", bay.set(what, least), most);
        Due.is("again", bay.set(what, most), least);
    }

    private static void noSuchSetting() {
        WindBay bay = new WindBay();
        Due.all("what", what -> bay.set(what, 40), -1, -1, 5, MIN, MAX);
        Due.all("what", what -> bay.set(what, 3), -1, -1, 5, MIN, MAX);
    }

    private static void whatItWas() {
        WindBay bay = new WindBay();
        int[] values = {41, 1, 7, 5, 12};
        for (int what = 0; what < 5; what++) {
            bay.set(what, values[what]);
        }
        for (int what = 0; what < 5; what++) {
            Due.is("what it was", bay.set(what, values[what]), values[what]);
            Due.is("the same again", bay.set(what, values[what]), values[what]);
        }
    }

    /** A BOAT at y 42, another one at y 0 yet. */
    private static WindBay oneAt42(boolean firstStays) {
        WindBay bay = new WindBay();
        bay.set(3, 9);
        bay.boat(0, 0, true, 0);
        bay.boat(0, 100, true, 0);
        Due.is("turn", bay.turn(firstStays ? 0 : 1), 9);
        bay.go(7);
        Due.is("y", bay.of(firstStays ? 1 : 0, 2), 42);
        Due.is("y", bay.of(firstStays ? 0 : 1, 2), 0);
        return bay;
    }

    private static void boatAtDist() {
        WindBay bay = oneAt42(false);
        Due.is("at that", bay.set(0, 42), -3);
        Due.is("one more", bay.set(0, 43), 200);
        Due.is("at that", bay.set(0, 42), -3);
        Due.is("told", bay.count(5), 43);
    }

    private static void boatBeyondDist() {
        WindBay bay = oneAt42(false);
        Due.is("beyond by 1", bay.set(0, 41), -3);
        Due.is("beyond by 2", bay.set(0, 40), -3);
        Due.is("far ahead", bay.set(0, 400), 200);
    }

    private static void anyBoatAtDist() {
        WindBay bay = oneAt42(true);
        Due.is("the other one is", bay.set(0, 42), -3);
        Due.is("none is", bay.set(0, 43), 200);
        WindBay four = new WindBay();
        four.set(3, 9);
        for (int i = 0; i < 4; i++) {
            four.boat(0, 20 * i, true, 0);
            if (i < 3) {
                four.turn(i);
            }
        }
        four.go(7);
        Due.is("the last of four is", four.set(0, 42), -3);
        Due.is("none is", four.set(0, 43), 200);
    }

    private static void boatInAtDist() {
        WindBay bay = new WindBay();
        bay.set(0, 42);
        bay.boat(0, -56, true, 0);
        bay.boat(0, -40, false, 0);
        bay.turn(1);
        bay.go(7);
        Due.is("IN", bay.of(0, 5), 7);
        Due.is("the DIST it is", bay.set(0, 42), -3);
        Due.is("more", bay.set(0, 43), 42);
        Due.is("less", bay.set(0, 42), -3);
    }

    private static void othersWhateverBoats() {
        WindBay bay = oneAt42(false);
        Due.is("TIDE", bay.set(1, 3), 0);
        Due.is("SHORE", bay.set(2, 41), 100);
        Due.is("COST", bay.set(3, 8), 9);
        Due.is("SEED", bay.set(4, 42), 0);
    }

    private static void boatWasAtDist() {
        WindBay bay = oneAt42(false);
        bay.anew();
        Due.is("at y 0", bay.set(0, 40), 200);
        WindBay begin = new WindBay();
        begin.boat(0, 0, true, 0);
        Due.is("the least DIST, at y 0", begin.set(0, 40), 200);
    }

    private static void wrongAheadOfBoats() {
        WindBay bay = oneAt42(false);
        Due.is("out of range", bay.set(0, 39), -1);
        Due.is("out of range", bay.set(0, -1), -1);
        Due.is("within", bay.set(0, 40), -3);
    }

    private static void refusedSettings() {
        WindBay bay = oneAt42(false);
        int[] wrong = {39, 4, 201, 10, 1000};
        int[] stays = {200, 0, 100, 9, 0};
        Due.is("DIST", bay.set(0, 42), -3);
        for (int what = 0; what < 5; what++) {
            Due.is("wrong", bay.set(what, wrong[what]), -1);
            Due.is("as it was", bay.set(what, stays[what]), stays[what]);
        }
    }

    private static void textsThatAreNone() {
        Due.sentence("3: -1 (SHELVES 0 .. 7)", () -> {
            WindBay bay = new WindBay();
            Due.all("fault", bay::fault, -1, -1, 8, MIN, MAX);
            Due.text(bay, 7, "t");
            Due.is("SHELF 7", bay.fault(7), -4);
        });
        Due.sentence("3: -11", () -> Due.is("nothing is held", new WindBay().fault(3), -11));
        Due.sentence("3: -12 (no ROW of bytes): a sailor", () -> Due.is("a sailor", withSailor().fault(0), -12));
        Due.sentence("3: -12 (no ROW of bytes): shorts, ints", () -> {
            for (int sort = 1; sort <= 2; sort++) {
                WindBay bay = rowOf(sort);
                Due.is("fault of sort " + sort, bay.fault(0), -12);
            }
            Due.is("bytes", rowOf(0).fault(0), -4);
        });
    }

    private static WindBay withSailor() {
        WindBay bay = new WindBay();
        bay.boat(0, 0, true, 1);
        bay.keep(0, 1, 0);
        return bay;
    }

    /** A ROW of that SORT that holds t. */
    private static WindBay rowOf(int sort) {
        WindBay bay = new WindBay();
        bay.row(0, sort, 1);
        bay.put(0, 0, 't');
        return bay;
    }

    private static void fault(String text, int due) {
        WindBay bay = new WindBay();
        Due.text(bay, 0, text);
        Due.is("fault of " + text, bay.fault(0), due);
    }

    private static void lawful(String... texts) {
        for (String text : texts) {
            fault(text, -4);
        }
    }

    private static void faultsOfNumbers() {
        Due.sentence("3: a NUMBER of 1 to 3 digits", () -> {
            lawful("7", "77", "777", "999", "1+777*77", "(777)");
            fault("7777", 3);
            fault("77777", 3);
            fault("(7777)", 4);
            fault("1+7777", 5);
            fault("777*7777", 7);
        });
        Due.sentence("3: without 0 ahead of others", () -> {
            lawful("0", "10", "100", "707", "(0)", "0+0", "1-0");
            fault("00", 1);
            fault("01", 1);
            fault("007", 1);
            fault("1+07", 3);
            fault("(00)", 2);
            fault("0t", 1);
        });
        Due.sentence("3: t the SECOND, s SEED, and no ATOM right behind another one", () -> {
            lawful("t", "s", "t+s", "(s)*(t)");
            fault("ts", 1);
            fault("tt", 1);
            fault("7t", 1);
            fault("t7", 1);
            fault("t(", 1);
            fault("7(7)", 1);
            fault("(t)t", 3);
            fault("(7)7", 3);
            fault("(t)(t)", 3);
        });
        Due.sentence("3: ( together 6 deep at most", () -> {
            lawful("((((((t))))))", "((((((t)))))+(t))", "((((((t))))))*((((((s))))))", "((((((t)+(s)))-(1))))");
            fault("(((((((t)))))))", 6);
            fault("1+(((((((", 8);
            fault("((((((t)+((", 10);
            fault("((((((t))+(((", 12);
            fault("((((((t))))))-(((((((", 20);
        });
    }

    private static void faultsOfSigns() {
        Due.sentence("3: the size, if it ends too early", () -> {
            fault("", 0);
            fault("(", 1);
            fault("((((((", 6);
            fault("(t", 2);
            fault("((t)", 4);
            fault("t+", 2);
            fault("t-", 2);
            fault("t*", 2);
            fault("12/", 3);
            fault("(t)%", 4);
            fault("(t+", 3);
        });
        Due.sentence("3: the size of a ROW of 100, if it ends too early", EdgesBayTest::fullRows);
        Due.sentence("3: a SUM begins with a PRODUCT, no sign ahead", () -> {
            fault("+1", 0);
            fault("-1", 0);
            fault("(-1)", 1);
            fault("1--1", 2);
            fault("1+-1", 2);
            fault("*1", 0);
            fault("1**1", 2);
            fault("1*-1", 2);
            fault("(/1)", 1);
            fault("%", 0);
        });
        Due.sentence("3: ( SUM ): what closes has been opened, and holds something", () -> {
            fault(")", 0);
            fault("()", 1);
            fault("(())", 2);
            fault("t)", 1);
            fault("(t))", 3);
            fault("(t+)", 3);
            fault("1+)", 2);
        });
        Due.sentence("3: the first byte with which no LAW can go on: each byte, ahead", () -> eachByte("", "0123456789ts", "("));
        Due.sentence("3: .. each byte, behind an ATOM", () -> eachByte("t", "", "+-*/%"));
        Due.sentence("3: .. each byte, behind a digit", () -> eachByte("7", "0123456789", "+-*/%"));
        Due.sentence("3: .. each byte, behind a 0", () -> eachByte("0", "", "+-*/%"));
        Due.sentence("3: .. each byte, behind ( and an ATOM", () -> eachByte("(t", ")", "+-*/%"));
        Due.sentence("3: .. each byte, behind a sign", () -> eachByte("t*", "0123456789ts", "("));
        Due.sentence("3: .. of bytes the lowest bits", () -> {
            WindBay bay = new WindBay();
            bay.row(0, 0, 1);
            bay.put(0, 0, 't' + 256);
            Due.is("t and 256", bay.fault(0), -4);
            bay.put(0, 0, 't' + 128);
            Due.is("t and 128", bay.fault(0), 0);
            bay.put(0, 0, 't' - 256);
            Due.is("t less 256", bay.fault(0), -4);
        });
    }

    private static void fullRows() {
        StringBuilder text = new StringBuilder("t");
        while (text.length() < 99) {
            text.append("+t");
        }
        fault(text + "*", 100);
        fault(text.substring(0, 98) + "77", -4);
        fault(text.substring(0, 98) + "(7", 100);
        fault(text.substring(0, 98) + "7)", 99);
        fault(text.substring(0, 97) + "777", 97);
    }

    /** Behind the text these bytes make a LAW, those ask for more, and with all others none can go on. */
    private static void eachByte(String text, String ends, String more) {
        int size = text.length();
        for (int b = 0; b < 256; b += 128) {
            WindBay bay = new WindBay();
            Due.text(bay, 0, text + "t");
            for (int c = b; c < b + 128; c++) {
                bay.put(0, size, c);
                int due = ends.indexOf(c) >= 0 ? -4 : more.indexOf(c) >= 0 ? size + 1 : size;
                Due.is("byte " + c + " behind " + text, bay.fault(0), due);
            }
        }
    }

    private static void lawsToldOrNot() {
        Due.sentence("4: -1 (SHELVES 0 .. 7)", () -> {
            WindBay bay = new WindBay();
            Due.all("law", bay::law, -1, -1, 8, MIN, MAX);
            Due.text(bay, 0, "t");
            Due.is("SHELF 0", bay.law(0), 1);
            Due.text(bay, 7, "t");
            Due.is("SHELF 7", bay.law(7), 1);
        });
        Due.sentence("4: -11", () -> Due.is("nothing is held", new WindBay().law(3), -11));
        Due.sentence("4: -12 (no ROW of bytes)", () -> {
            Due.is("a sailor", withSailor().law(0), -12);
            Due.is("shorts", rowOf(1).law(0), -12);
            Due.is("ints", rowOf(2).law(0), -12);
            Due.is("bytes", rowOf(0).law(0), 1);
        });
        Due.sentence("4: -100 less a FAULT", () -> {
            law("", -100);
            law("+", -100);
            law("00", -101);
            law("t+", -102);
            law("(((((((", -106);
            law("7777", -103);
            law("t", 1);
        });
        Due.sentence("4: -100 less a FAULT of 99, of 100", () -> {
            StringBuilder text = new StringBuilder("t");
            while (text.length() < 99) {
                text.append("-0");
            }
            law(text + "t", -199);
            law(text + "-", -200);
            law(text.substring(0, 98) + "99", 1);
        });
        Due.sentence("4: A refused call changes nothing", () -> {
            WindBay bay = new WindBay();
            Due.law(bay, "7");
            Due.text(bay, 0, "8+");
            Due.is("a FAULT", bay.law(0), -102);
            Due.is("nothing", bay.law(1), -11);
            Due.is("no SHELF", bay.law(8), -1);
            bay.row(1, 1, 1);
            bay.put(1, 0, '9');
            Due.is("shorts", bay.law(1), -12);
            Due.is("as it was", bay.wind(0), 7);
        });
        Due.sentence("4: the text is the LAW, in place of the one ahead", () -> {
            WindBay bay = new WindBay();
            Due.law(bay, "7+7");
            Due.is("one", bay.wind(400), 14);
            Due.law(bay, "t");
            Due.is("another one, shorter", bay.wind(0), 0);
            Due.is("another one, shorter", bay.wind(400), 40);
        });
    }

    private static void law(String text, int due) {
        WindBay bay = new WindBay();
        Due.text(bay, 0, text);
        Due.is("law of " + text, bay.law(0), due);
    }

    private static void wind(String text, int second, int due) {
        WindBay bay = new WindBay();
        Due.law(bay, text);
        Due.is("wind(" + second + ") by " + text, bay.wind(second), due);
    }

    private static void winds() {
        Due.sentence("5: SECONDS 0 .. 400", () -> {
            WindBay bay = new WindBay();
            Due.law(bay, "t-380");
            Due.is("wind(400)", bay.wind(400), 20);
            Due.is("wind(399)", bay.wind(399), 19);
            Due.is("wind(0)", bay.wind(0), -40);
            wind("7-t", 0, 7);
        });
        Due.sentence("5: -1000000001", () -> {
            WindBay bay = new WindBay();
            Due.all("wind", bay::wind, FAR - 1, -1, 401, MIN, MAX);
        });
        Due.sentence("5: Without a LAW told 0", () -> {
            WindBay bay = new WindBay();
            bay.set(4, 999);
            Due.all("wind", bay::wind, 0, 0, 1, 399, 400);
        });
        Due.sentence("5: what comes is held to -40 .. 40", () -> {
            wind("39", 0, 39);
            wind("40", 0, 40);
            wind("41", 0, 40);
            wind("999", 0, 40);
            wind("0-39", 0, -39);
            wind("0-40", 0, -40);
            wind("0-41", 0, -40);
            wind("0-999", 0, -40);
            wind("(100-90)*(2-1)", 0, 10);
            wind("100-90", 0, 10);
        });
        Due.sentence("5: from the left", () -> {
            wind("30-10-5", 0, 15);
            wind("30-10+5", 0, 25);
            wind("40/4/2", 0, 5);
            wind("40/4*2", 0, 20);
            wind("40%7%3", 0, 2);
            wind("3*5%4", 0, 3);
            wind("30-2*5", 0, 20);
            wind("2*5-30", 0, -20);
        });
        Due.sentence("5: / cut toward 0", () -> {
            wind("7/2", 0, 3);
            wind("(0-7)/2", 0, -3);
            wind("7/(0-2)", 0, -3);
            wind("(0-7)/(0-2)", 0, 3);
            wind("(0-1)/2", 0, 0);
        });
        Due.sentence("5: / by 0: 0", () -> {
            wind("7/0", 0, 0);
            wind("7/(1-1)", 0, 0);
            wind("7/t", 0, 0);
            wind("9+7/t*3", 0, 9);
        });
        Due.sentence("5: % the rest with the sign of what is divided", () -> {
            wind("7%3", 0, 1);
            wind("(0-7)%3", 0, -1);
            wind("7%(0-3)", 0, 1);
            wind("(0-7)%(0-3)", 0, -1);
        });
        Due.sentence("5: % by 0: 0", () -> {
            wind("7%0", 0, 0);
            wind("7%t", 0, 0);
            wind("9-7%(t*5)", 0, 9);
        });
        Due.sentence("5: All in 32 bits, as machines do", EdgesBayTest::wrapsAround);
        Due.sentence("5: s SEED (0 .. 999)", () -> {
            WindBay bay = new WindBay();
            Due.law(bay, "s-970");
            Due.is("SEED 0", bay.wind(0), -40);
            bay.set(4, 999);
            Due.is("SEED 999", bay.wind(0), 29);
            bay.set(4, 1000);
            Due.is("refused", bay.wind(0), 29);
            bay.set(4, 960);
            Due.is("SEED 960", bay.wind(400), -10);
        });
        Due.sentence("5: a LAW of 100 bytes, 6 deep", () -> {
            StringBuilder text = new StringBuilder("((((((1");
            while (text.length() < 92) {
                text.append("+0");
            }
            text.setLength(91);
            wind(text + "+10))))))", 5, 11);
        });
    }

    private static void wrapsAround() {
        wind("512*512*512*15", 0, 40);
        wind("512*512*512*16", 0, -40);
        wind("512*512*512*16-1", 0, 40);
        wind("0-1-512*512*512*16", 0, 40);
        wind("512*512*512*15+512*512*512", 0, -40);
        wind("0-512*512*512*16", 0, -40);
        wind("512*512*512*16/(0-1)", 0, -40);
        wind("512*512*512*16%(0-1)", 0, 0);
        wind("512*512*512*32+7", 0, 7);
        wind("999*999*999*999%37", 0, 999 * 999 * 999 * 999 % 37);
    }
}
