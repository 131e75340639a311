/** Promises 1 to 5: a new object, set, fault, law, wind. */
public final class BayTest {
    private static final int FAR = -1000000000;

    public static void main(String[] args) {
        newObject();
        setRanges();
        setDistAndBoats();
        faults();
        refusalsOfTexts();
        laws();
        winds();
        Due.end();
    }

    private static void newObject() {
        WindBay bay = new WindBay();
        Due.is("BOATS", bay.count(0), 0);
        Due.is("SECOND", bay.count(1), 0);
        Due.is("IN", bay.count(2), 0);
        Due.is("turns", bay.count(3), 0);
        Due.is("in BAD AIR", bay.count(4), 0);
        Due.is("DIST", bay.count(5), 200);
        Due.is("wind(0)", bay.wind(0), 0);
        Due.is("wind(400)", bay.wind(400), 0);
        Due.is("of(0, 0)", bay.of(0, 0), FAR - 1);
        Due.is("restore()", bay.restore(), -3);
        for (int d = 0; d < 8; d++) {
            Due.is("which of an empty SHELF", bay.which(d), -11);
            Due.is("skill of an empty SHELF", bay.skill(d), FAR - 11);
        }
    }

    private static void setRanges() {
        int[] least = {40, 0, 0, 0, 0};
        int[] most = {400, 3, 200, 9, 999};
        int[] first = {200, 0, 100, 2, 0};
        WindBay bay = new WindBay();
        for (int what = 0; what < 5; what++) {
            Due.is("set below", bay.set(what, least[what] - 1), -1);
            Due.is("set beyond", bay.set(what, most[what] + 1), -1);
            Due.is("set far below", bay.set(what, Integer.MIN_VALUE), -1);
            Due.is("set far beyond", bay.set(what, Integer.MAX_VALUE), -1);
            Due.is("set to the least", bay.set(what, least[what]), first[what]);
            Due.is("set to the most", bay.set(what, most[what]), least[what]);
            Due.is("set back", bay.set(what, first[what]), most[what]);
        }
        Due.is("set(-1, 40)", bay.set(-1, 40), -1);
        Due.is("set(5, 40)", bay.set(5, 40), -1);
        Due.is("set(MAX, 40)", bay.set(Integer.MAX_VALUE, 40), -1);
        Due.is("set(MIN, 40)", bay.set(Integer.MIN_VALUE, 40), -1);
        Due.is("DIST", bay.set(0, 77), 200);
        Due.is("count of DIST", bay.count(5), 77);
    }

    private static void setDistAndBoats() {
        WindBay bay = new WindBay();
        bay.boat(0, 0, true, 0);
        bay.boat(0, 100, true, 0);
        Due.is("turn", bay.turn(0), 2);
        Due.is("go(9)", bay.go(9), 9);
        Due.is("y of 0", bay.of(0, 2), 42);
        Due.is("y of 1", bay.of(1, 2), 54);
        Due.is("set to where 1 is", bay.set(0, 54), -3);
        Due.is("set to where 0 is", bay.set(0, 42), -3);
        Due.is("wrong ahead of not now", bay.set(0, 39), -1);
        Due.is("refused: DIST is as it was", bay.count(5), 200);
        Due.is("set beyond 1", bay.set(0, 55), 200);
        Due.is("TIDE is told whatever BOATS do", bay.set(1, 3), 0);
        Due.is("anew", bay.anew(), 2);
        Due.is("set, as BOATS are at y 0", bay.set(0, 40), 55);
    }

    private static void faults() {
        String[] texts = {
            "", "t", "s", "0", "00", "01", "10", "100", "999", "1000", "1234", "t1", "1t", "s0", "t+",
            "+t", "-t", "-1", "t+-1", "(t)", "(t", "()", "t)", "(t))", "t(t)", "(t)t", "(t)5", "(1)2", "1(",
            "t+s-1*2/3%4", "t t", " t", "T", "((((((t))))))", "(((((((", "((((((", "((((((1+", "1*(",
            "t%0", "(t)+(s)", "((((((t))))))+((((((s))))))", "5)", "t^2", "t**2", "t+0", "t+05", "(0)0", "*",
            ")", "((t+1)*(s-2)", "((t+1)*(s-2))", "((((((t)))))))", "(((((t)+(t))+((t)))))", "1+200-30",
            "((((((t)+(t))))))", "(((((((t)))))))", "((((((t))+((t))))))", "((((((t))+(((t))))))", "/", "9/", "0%"
        };
        int[] due = {
            0, -4, -4, -4, 1, 1, -4, -4, -4, 3, 3, 1, 1, 1, 2,
            0, 0, 0, 2, -4, 2, 1, 1, 3, 1, 3, 3, 3, 1,
            -4, 1, 0, 0, -4, 6, 6, 8, 3,
            -4, -4, -4, 1, 1, 2, -4, 3, 3, 0,
            0, 12, -4, 13, -4, -4,
            -4, 6, -4, 12, 0, 2, 2
        };
        WindBay[] bays = new WindBay[texts.length];
        for (int i = 0; i < texts.length; i++) {
            bays[i] = new WindBay();
            Due.text(bays[i], i % 8, texts[i]);
            Due.is("fault of " + texts[i], bays[i].fault(i % 8), due[i]);
            Due.is("law of " + texts[i], bays[i].law(i % 8), due[i] == -4 ? 1 : -100 - due[i]);
        }
        WindBay bay = new WindBay();
        bay.row(0, 0, 3);
        Due.is("zeros are no text", bay.fault(0), 0);
        bay.put(0, 0, 't' + 256);
        bay.put(0, 1, '+');
        bay.put(0, 2, 't' + 128);
        Due.is("lowest bits alone", bay.fault(0), 2);
        bay.put(0, 2, 's' - 256);
        Due.is("lowest bits alone", bay.fault(0), -4);
        StringBuilder longest = new StringBuilder("10");
        for (int i = 0; i < 49; i++) {
            longest.append("+t");
        }
        Due.text(bay, 1, longest.toString());
        Due.is("100 bytes", bay.fault(1), -4);
        Due.is("100 bytes", bay.law(1), 1);
        Due.is("100 bytes", bay.wind(0), 10);
        bay.put(1, 99, '+');
        Due.is("98 bytes and two signs", bay.fault(1), 99);
        Due.is("98 bytes and two signs", bay.law(1), -199);
        Due.text(bay, 1, longest.substring(1) + "-");
        Due.is("ends too early", bay.fault(1), 100);
        Due.is("ends too early", bay.law(1), -200);
    }

    private static void refusalsOfTexts() {
        WindBay bay = new WindBay();
        bay.boat(0, 0, true, 1);
        bay.keep(1, 1, 0);
        bay.row(2, 1, 1);
        bay.put(2, 0, 't');
        bay.row(3, 2, 1);
        bay.put(3, 0, 't');
        int[] shelves = {-1, 8, Integer.MIN_VALUE, Integer.MAX_VALUE, 0, 1, 2, 3};
        int[] due = {-1, -1, -1, -1, -11, -12, -12, -12};
        for (int i = 0; i < shelves.length; i++) {
            Due.is("fault(" + shelves[i] + ")", bay.fault(shelves[i]), due[i]);
            Due.is("law(" + shelves[i] + ")", bay.law(shelves[i]), due[i]);
        }
    }

    private static void laws() {
        WindBay bay = new WindBay();
        Due.text(bay, 0, "7");
        Due.is("law", bay.law(0), 1);
        Due.is("wind", bay.wind(3), 7);
        bay.put(0, 0, '8');
        Due.is("the LAW is as it was told", bay.wind(3), 7);
        bay.keep(0, 0, 0);
        Due.is("the LAW is as it was told", bay.wind(4), 7);
        Due.text(bay, 1, "9+");
        Due.is("no LAW", bay.law(1), -102);
        Due.is("refused: the LAW stays", bay.wind(3), 7);
        Due.law(bay, "t");
        Due.is("another LAW", bay.wind(3), 3);
    }

    private static int windOf(String text, int seed, int second) {
        WindBay bay = new WindBay();
        Due.law(bay, text);
        Due.is("SEED", bay.set(4, seed), 0);
        return bay.wind(second);
    }

    private static void winds() {
        Due.is("t", windOf("t", 0, 0), 0);
        Due.is("t", windOf("t", 0, 39), 39);
        Due.is("held", windOf("t", 0, 41), 40);
        Due.is("held", windOf("t", 0, 400), 40);
        Due.is("held", windOf("0-t", 0, 41), -40);
        Due.is("not held", windOf("0-t", 0, 40), -40);
        Due.is("from the left", windOf("20-5-5", 0, 0), 10);
        Due.is("product first", windOf("2+3*4", 0, 0), 14);
        Due.is("product first", windOf("30-3*4", 0, 0), 18);
        Due.is("in brackets", windOf("(2+3)*4", 0, 0), 20);
        Due.is("from the left", windOf("40/3/2", 0, 0), 6);
        Due.is("from the left", windOf("7/2*2", 0, 0), 6);
        Due.is("from the left", windOf("100%7*3", 0, 0), 6);
        Due.is("from the left", windOf("3*5%4", 0, 0), 3);
        Due.is("brackets behind a sign", windOf("20-(5-5)", 0, 0), 20);
        Due.is("cut toward 0", windOf("(0-7)/2", 0, 0), -3);
        Due.is("cut toward 0", windOf("7/(0-2)", 0, 0), -3);
        Due.is("sign of what is divided", windOf("(0-7)%3", 0, 0), -1);
        Due.is("sign of what is divided", windOf("7%(0-3)", 0, 0), 1);
        Due.is("by 0", windOf("5/0", 0, 0), 0);
        Due.is("by 0", windOf("5%0", 0, 0), 0);
        Due.is("by 0 amid", windOf("3+5/0*2", 0, 0), 3);
        Due.is("by t", windOf("12/t", 0, 0), 0);
        Due.is("by t", windOf("12/t", 0, 5), 2);
        Due.is("32 bits", windOf("999*999*999*999%37", 0, 0), 999 * 999 * 999 * 999 % 37);
        Due.is("32 bits", windOf("512*512*512*16/(0-1)", 0, 0), -40);
        Due.is("32 bits", windOf("512*512*512*16%(0-1)", 0, 0), 0);
        Due.is("32 bits", windOf("512*512*512*16-1-1", 0, 0), 40);
        Due.is("s", windOf("s", 15, 7), 15);
        Due.is("s", windOf("s", 999, 7), 40);
        Due.is("s and t", windOf("s-t*2", 30, 7), 16);
        Due.is("six deep", windOf("((((((t+1))))))*2", 0, 4), 10);
        Due.is("digits", windOf("123-100", 0, 0), 23);
        WindBay bay = new WindBay();
        Due.is("wind(-1)", bay.wind(-1), -1000000001);
        Due.is("wind(401)", bay.wind(401), -1000000001);
        Due.is("wind(MIN)", bay.wind(Integer.MIN_VALUE), -1000000001);
        Due.is("wind(MAX)", bay.wind(Integer.MAX_VALUE), -1000000001);
        Due.law(bay, "t+s");
        Due.is("wind(5)", bay.wind(5), 5);
        bay.set(4, 6);
        Due.is("another SEED", bay.wind(5), 11);
        bay.boat(0, 0, true, 0);
        bay.go(3);
        Due.is("wind whatever the SECOND", bay.wind(2), 8);
    }
}
