/** Promises 1 to 6 and 32: a new object, plate, sign, set, ofEater, law, many. */
public final class PlateTest {
    private static final Due DUE = new Due("PlateTest");

    public static void main(String[] args) {
        newObject();
        firstFaults();
        takenTexts();
        lanesOfTexts();
        refusedPlates();
        signs();
        setSquares();
        setReplays();
        eaters();
        laws();
        many();
        DUE.end();
    }

    private static void newObject() {
        PlatePeas x = new PlatePeas();
        for (int what = 0; what < 7; what++) {
            DUE.is("many of a new object " + what, x.many(what), 0);
        }
        DUE.is("sign", x.sign(0), -1);
        DUE.is("set", x.set(0, 0), -1);
        DUE.is("ofEater", x.ofEater(0, 0), -1);
        DUE.is("law", x.law(1), -3);
        DUE.is("law wrong", x.law(3), -2);
        DUE.is("push", x.push(0, 0, 0), -1);
        DUE.is("undo(0)", x.undo(0), 0);
        DUE.is("undo(1)", x.undo(1), -2);
        DUE.is("where", x.where(0), -1);
        DUE.is("peas", x.peas(5), -3);
        DUE.is("peas wrong", x.peas(6), -2);
        DUE.is("would", x.would(0, 0, 9, 9), -1);
        DUE.is("fewest", x.fewest(0, -1), -1);
        DUE.is("most", x.most(3), -3);
        DUE.is("most wrong", x.most(4), -2);
        DUE.is("wall", x.wall(0, 0, 0), -1);
        DUE.is("row", x.row(0, 0, 0, 0), -3);
        DUE.is("odds", x.odds(0, 0, 0), Long.MIN_VALUE);
        DUE.is("reading", x.reading(0, -9), -1);
        DUE.is("back(0)", x.back(0), 0);
        DUE.is("back(1)", x.back(1), -2);
        DUE.is("last", x.last(0), -3);
        DUE.is("last wrong", x.last(-2), -1);
        DUE.is("laws", x.laws(), -3);
        DUE.is("never", x.never(), -3);
        DUE.is("tell", x.tell(0), -1);
        DUE.is("polish", x.polish(0), -1);
        DUE.is("as", x.as(0, 0), -1);
        DUE.is("trace", x.trace(), 0);
        DUE.is("fault", x.fault(), 0);
        for (int k = 0; k < 4; k++) {
            DUE.is("lose " + k, x.lose(k), 0);
        }
    }

    private static void fault(String text, int place) {
        PlatePeas x = new PlatePeas();
        DUE.is("plate by '" + text + "'", Due.lay(x, text), -100 - place);
        DUE.is("fault by '" + text + "'", x.fault(), 0);
        DUE.is("many by '" + text + "'", x.many(3), 0);
    }

    private static void firstFaults() {
        fault("", 0);
        fault("x", 0);
        fault("P22;..;..;f1", 0);
        fault("p", 1);
        fault("p1", 1);
        fault("p6", 1);
        fault("p2", 2);
        fault("p21", 2);
        fault("p27", 2);
        fault("p22", 3);
        fault("p22.", 3);
        fault("p22;", 4);
        fault("p22;;", 4);
        fault("p22;.x", 5);
        fault("p22;...", 6);
        fault("p22;..;..", 9);
        fault("p22;..;...", 9);
        fault("p22;..;..;", 10);
        fault("p22;..;..;x1", 10);
        fault("p22;..;..;;", 10);
        fault("p22;..;..;f", 11);
        fault("p22;..;..;f0", 11);
        fault("p22;..;..;f5", 11);
        fault("p22;..;..;f1f", 12);
        fault("p22;..;..;f1;", 13);
        fault("p22;..;..;f1;o", 13);
        fault("p22;..;..;f1;k", 14);
        fault("p22;..;..;f1;k5", 14);
        fault("p22;..;..;f1;k2;", 15);
        fault("p22;..;..;f1;k2.", 15);
        fault("p23;ooo;ooo;f1", 10);
        fault("p23;ooo;oo", 10);
    }

    private static void taken(String text, int peas, int squares, int wide, int eaters) {
        PlatePeas x = new PlatePeas();
        DUE.is("plate by '" + text + "'", Due.lay(x, text), peas);
        DUE.is("squares", x.many(0), squares);
        DUE.is("wide", x.many(1), wide);
        DUE.is("peas", x.many(2), peas);
        DUE.is("eaters", x.many(3), eaters);
    }

    private static void takenTexts() {
        taken("p22;..;..;f1", 0, 4, 2, 1);
        taken("p22;oo;oo;s4;k4", 4, 4, 2, 2);
        taken("p23;ooo;oo.;f1", 5, 6, 3, 1);
        taken("p56;......;gggggg;mmmmmm;oooo..;.....o;f1;s1", 5, 30, 6, 2);
        taken("p52;..;..;..;..;.o;k3", 1, 10, 2, 1);
    }

    private static void lanesOfTexts() {
        String text = "p22;o.;g.;k2";
        for (int lane = 0; lane < 3; lane++) {
            PlatePeas x = new PlatePeas();
            x.sheet(lane, lane, text.length() + 5);
            for (int i = 0; i < text.length(); i++) {
                x.put(lane, i + 3, text.charAt(i));
            }
            DUE.is("plate from 3 on", x.plate(lane, lane, 3, text.length()), 1);
            DUE.is("plate from 3 on, too long", x.plate(lane, lane, 3, text.length() + 1), -100 - text.length());
            DUE.is("the plate stays", x.many(0), 4);
        }
        PlatePeas y = new PlatePeas();
        Due.write(y, 0, 2, 'p' + 256, '2');
        DUE.is("an int is not cut", y.plate(0, 2, 0, 2), -100);
        Due.write(y, 0, 0, 'p' + 256, '2');
        DUE.is("a byte is cut", y.plate(0, 0, 0, 2), -102);
    }

    private static void refusedPlates() {
        PlatePeas x = Due.laid("p22;o.;..;f1");
        x.push(0, 0, 1);
        x.reading(0, 1);
        x.law(1);
        DUE.is("UNKNOWN first", x.plate(4, 9, -1, -1), -1);
        DUE.is("UNKNOWN below", x.plate(-1, 0, 0, 0), -1);
        DUE.is("OUTSIDE", x.plate(0, 3, -1, -1), -2);
        DUE.is("OUTSIDE below", x.plate(0, -1, -1, -1), -2);
        DUE.is("NULL", x.plate(0, 0, -1, -1), -11);
        DUE.is("fault NULL", x.fault(), 1);
        DUE.is("refused", x.plate(0, 3, 0, 0), -2);
        DUE.is("fault of a refusal", x.fault(), 0);
        x.sheet(0, 1, 4);
        DUE.is("CAST", x.plate(0, 0, -1, -1), -12);
        DUE.is("fault CAST", x.fault(), 2);
        DUE.is("SIZE", x.plate(0, 1, -1, -1), -14);
        DUE.is("fault SIZE", x.fault(), 4);
        DUE.is("INDEX below", x.plate(0, 1, -1, 0), -13);
        DUE.is("fault INDEX", x.fault(), 3);
        DUE.is("INDEX beyond", x.plate(0, 1, 5, 0), -13);
        DUE.is("INDEX of the last", x.plate(0, 1, 4, 1), -13);
        DUE.is("INDEX far", x.plate(0, 1, 4, Integer.MAX_VALUE), -13);
        DUE.is("none from the end", x.plate(0, 1, 4, 0), -100);
        DUE.is("fault of none", x.fault(), 0);
        DUE.is("a wrong text", Due.lay(x, "p33;oo"), -106);
        DUE.is("pushes stay", x.many(4), 1);
        DUE.is("readings stay", x.many(5), 1);
        DUE.is("law stays", x.many(6), 1);
        DUE.is("peas stay", x.where(0), 1);
        DUE.is("a right one", Due.lay(x, "p23;.o.;...;s1"), 1);
        DUE.is("no pushes", x.many(4), 0);
        DUE.is("no readings", x.many(5), 0);
        DUE.is("law 0", x.many(6), 0);
        DUE.is("where by the text", x.where(0), 1);
        DUE.is("one eater", x.ofEater(1, 0), -1);
    }

    private static void signs() {
        PlatePeas x = Due.laid("p23;.gm;o.g;f1");
        int[] want = {0, 1, 2, 0, 0, 1};
        for (int c = 0; c < 6; c++) {
            DUE.is("sign " + c, x.sign(c), want[c]);
        }
        DUE.is("sign -1", x.sign(-1), -1);
        DUE.is("sign 6", x.sign(6), -1);
        DUE.is("sign far", x.sign(Integer.MAX_VALUE), -1);
    }

    private static void setSquares() {
        PlatePeas x = Due.laid("p23;.gm;o.g;f1");
        DUE.is("set bare to mash", x.set(0, 2), 0);
        DUE.is("is mash", x.sign(0), 2);
        DUE.is("set gravy to bare", x.set(1, 0), 1);
        DUE.is("set mash to gravy", x.set(2, 1), 2);
        DUE.is("set again", x.set(2, 1), 1);
        DUE.is("UNKNOWN first", x.set(6, 3), -1);
        DUE.is("UNKNOWN below", x.set(-1, 0), -1);
        DUE.is("OUTSIDE", x.set(3, 3), -2);
        DUE.is("OUTSIDE below", x.set(3, -1), -2);
        DUE.is("STATE", x.set(3, 2), -3);
        DUE.is("gravy beneath a pea", x.set(3, 1), 0);
        DUE.is("it is", x.sign(3), 1);
        x.push(0, 0, 1);
        DUE.is("it rolled from gravy", x.where(0), 4);
        DUE.is("STATE by the text, though the pea is gone", x.set(3, 2), -3);
    }

    private static void setReplays() {
        PlatePeas x = Due.laid("p23;o..;...;f2");
        x.push(0, 0, 1);
        DUE.is("rolls", x.where(0), 2);
        DUE.is("mash where it is now", x.set(2, 2), 0);
        DUE.is("stops before it", x.where(0), 1);
        DUE.is("mash next to where it was", x.set(1, 2), 0);
        DUE.is("is had", x.where(0), -9);
        DUE.is("had", x.peas(0), 1);
        DUE.is("gravy there", x.set(1, 1), 2);
        DUE.is("stops on it", x.where(0), 1);
    }

    private static void eaters() {
        PlatePeas x = Due.laid("p22;..;..;f4;k3");
        int[][] want = {{0, 4, 4}, {1, 3, 4}};
        for (int e = 0; e < 2; e++) {
            for (int what = 0; what < 3; what++) {
                DUE.is("ofEater " + e + " " + what, x.ofEater(e, what), want[e][what]);
            }
        }
        DUE.is("OUTSIDE", x.ofEater(0, 3), -2);
        DUE.is("OUTSIDE below", x.ofEater(0, -1), -2);
        DUE.is("UNKNOWN", x.ofEater(2, 3), -1);
        DUE.is("UNKNOWN below", x.ofEater(-1, 0), -1);
        PlatePeas y = Due.laid("p22;..;..;s4");
        DUE.is("spoon", y.ofEater(0, 0), 2);
        DUE.is("spoon's strength", y.ofEater(0, 1), 4);
        DUE.is("spoon's force", y.ofEater(0, 2), 10);
        DUE.is("no second", y.ofEater(1, 0), -1);
    }

    private static void laws() {
        PlatePeas x = Due.laid("p22;o.;..;f2");
        DUE.is("law 1", x.law(1), 0);
        DUE.is("law 2", x.law(2), 1);
        DUE.is("law 2 again", x.law(2), 2);
        DUE.is("OUTSIDE", x.law(3), -2);
        DUE.is("OUTSIDE below", x.law(-1), -2);
        DUE.is("is 2", x.many(6), 2);
        x.push(0, 0, 1);
        DUE.is("law 2: stops at the rim", x.where(0), 1);
        x.law(1);
        DUE.is("law 1: off", x.where(0), -9);
        DUE.is("off", x.peas(1), 1);
        x.law(0);
        DUE.is("law 0: turns", x.where(0), 1);
        DUE.is("not off", x.peas(1), 0);
    }

    private static void many() {
        PlatePeas x = Due.laid("p34;o.o.;....;....;f2;s1");
        x.law(2);
        x.push(0, 0, 1);
        x.push(0, 0, 0);
        x.reading(0, -9);
        int[] want = {12, 4, 2, 2, 2, 1, 2};
        for (int what = 0; what < 7; what++) {
            DUE.is("many " + what, x.many(what), want[what]);
        }
        DUE.is("peas by the text, though one is had", x.peas(0), 1);
        DUE.is("OUTSIDE", x.many(7), -2);
        DUE.is("OUTSIDE below", x.many(-1), -2);
    }
}
