/** Promises 7 to 11: push, undo, where, peas, would. */
public final class PushTest {
    private static final Due DUE = new Due("PushTest");

    public static void main(String[] args) {
        rolling();
        turning();
        falling();
        striking();
        strikingBack();
        holding();
        notHadByStriking();
        pushes();
        undo();
        wheres();
        peas();
        woulds();
        DUE.end();
    }

    private static void pushed(String text, int law, int pea, int d, int... spots) {
        PlatePeas x = Due.laid(text);
        x.law(law);
        x.push(0, pea, d);
        for (int p = 0; p < spots.length; p++) {
            DUE.is("pea " + p + " of " + text + " by law " + law + ", " + pea + " pushed " + d, x.where(p), spots[p]);
        }
    }

    private static void rolling() {
        pushed("p36;......;.o....;......;f1", 0, 0, 1, 8);
        pushed("p36;......;.o....;......;f3", 0, 0, 1, 10);
        pushed("p36;......;.o....;......;k3", 0, 0, 1, 11);
        pushed("p36;......;.o....;......;f1", 0, 0, 0, 1);
        pushed("p36;......;.o....;......;f1", 0, 0, 2, 13);
        pushed("p36;......;.o....;......;f1", 0, 0, 3, 6);
        pushed("p36;......;.o.g..;......;f4", 0, 0, 1, 9);
        pushed("p36;......;.o..m.;......;f4", 0, 0, 1, 9);
        pushed("p36;......;.o..m.;......;s4", 1, 0, 1, 9);
    }

    private static void turning() {
        pushed("p26;....o.;......;f2", 0, 0, 1, 5);
        pushed("p26;....o.;......;f3", 0, 0, 1, 4);
        pushed("p26;....o.;......;f4", 0, 0, 1, 3);
        pushed("p26;.....o;......;f1", 0, 0, 1, 5);
        pushed("p26;.....o;......;f2", 0, 0, 1, 4);
        pushed("p26;....o.;......;s4", 0, 0, 1, 2);
        pushed("p22;o.;..;s4", 0, 0, 1, 1);
        pushed("p26;..mo..;......;s4", 0, 0, 1, 3);
        pushed("p22;o.;..;f3", 0, 0, 0, 2);
    }

    private static void falling() {
        pushed("p26;....o.;......;f1", 1, 0, 1, 5);
        pushed("p26;....o.;......;f2", 1, 0, 1, -9);
        pushed("p26;.....o;......;f1", 1, 0, 1, -9);
        pushed("p26;.....g;.o....;f1", 1, 0, 0, 1);
        pushed("p26;....o.;......;f4", 2, 0, 1, 5);
        PlatePeas x = Due.laid("p26;....o.;......;f2");
        x.law(1);
        x.push(0, 0, 1);
        DUE.is("off", x.peas(1), 1);
        DUE.is("not had", x.peas(0), 0);
    }

    private static void striking() {
        pushed("p26;oo....;......;f1", 0, 0, 1, 0, 1);
        pushed("p26;oo....;......;f2", 0, 0, 1, 0, 2);
        pushed("p26;o.o...;......;f1", 0, 0, 1, 1, 2);
        pushed("p26;o.o...;......;f2", 0, 0, 1, 1, 2);
        pushed("p26;o.o...;......;f3", 0, 0, 1, 1, 3);
        pushed("p26;ooo...;......;f4", 0, 0, 1, 0, 1, 4);
        pushed("p26;oo.o..;......;f4", 0, 0, 1, 0, 2, 4);
        pushed("p26;o.o.g.;......;s4", 0, 0, 1, 1, 4);
        pushed("p26;....oo;......;f2", 1, 0, 1, 4, -9);
        pushed("p26;....oo;......;f1", 1, 0, 1, 4, 5);
    }

    private static void strikingBack() {
        // Force 10: the strike, rim, strike back; the first one rolls left with 7: 4 squares, a turn, 2 squares.
        pushed("p26;....oo;......;s4", 0, 0, 1, 2, 5);
        pushed("p26;....oo;......;f3", 0, 0, 1, 4, 5);
        pushed("p26;....oo;......;f4", 0, 0, 1, 3, 5);
        pushed("p26;o...o.;......;s4", 0, 0, 1, 1, 4);
    }

    private static void holding() {
        pushed("p26;om....;......;f1", 0, 0, 1, -9);
        pushed("p26;oom...;......;f4", 0, 0, 1, -9, 1);
        pushed("p26;oom...;......;f4", 0, 1, 3, 0, 1);
        pushed("p26;ooooom;......;f4", 1, 0, 1, -9, 1, 2, 3, 4);
        pushed("p26;....oo;......;f4", 2, 0, 1, -9, 5);
        pushed("p26;....oo;......;f4", 2, 1, 1, 4, -9);
        pushed("p26;o.....;......;f4", 2, 0, 0, -9);
        pushed("p26;o.....;......;f4", 2, 0, 2, 6);
        pushed("p26;og....;......;f4", 2, 0, 1, 1);
    }

    private static void notHadByStriking() {
        pushed("p26;o.om..;......;f4", 0, 0, 1, 1, 2);
        pushed("p26;o...oo;......;s4", 2, 0, 1, 3, 4, 5);
    }

    private static void pushes() {
        PlatePeas x = Due.laid("p22;om;..;f1");
        DUE.is("UNKNOWN eater", x.push(1, 0, 4), -1);
        DUE.is("UNKNOWN eater below", x.push(-1, 0, 0), -1);
        DUE.is("UNKNOWN pea", x.push(0, 1, 4), -1);
        DUE.is("UNKNOWN pea below", x.push(0, -1, 0), -1);
        DUE.is("OUTSIDE", x.push(0, 0, 4), -2);
        DUE.is("OUTSIDE below", x.push(0, 0, -1), -2);
        for (int k = 0; k < 30; k++) {
            DUE.is("push " + k, x.push(0, 0, 1), k);
        }
        DUE.is("FULL", x.push(0, 0, 1), -4);
        DUE.is("OUTSIDE before FULL", x.push(0, 0, 4), -2);
        DUE.is("UNKNOWN before FULL", x.push(0, 1, 0), -1);
        DUE.is("30", x.many(4), 30);
        DUE.is("would where there are 30", x.would(0, 0, 0, 0), -3);
    }

    private static void undo() {
        PlatePeas x = Due.laid("p26;.o....;......;f1");
        x.push(0, 0, 1);
        x.push(0, 0, 1);
        x.push(0, 0, 2);
        DUE.is("where", x.where(0), 9);
        DUE.is("undo(0)", x.undo(0), 3);
        DUE.is("where", x.where(0), 9);
        DUE.is("undo(1)", x.undo(1), 2);
        DUE.is("where", x.where(0), 3);
        DUE.is("undo(3)", x.undo(3), -2);
        DUE.is("undo(-1)", x.undo(-1), -2);
        DUE.is("where", x.where(0), 3);
        DUE.is("push again", x.push(0, 0, 3), 2);
        DUE.is("undo(3)", x.undo(3), 0);
        DUE.is("where", x.where(0), 1);
    }

    private static void wheres() {
        PlatePeas x = Due.laid("p22;om;.o;f1");
        DUE.is("0", x.where(0), 0);
        DUE.is("1", x.where(1), 3);
        DUE.is("2", x.where(2), -1);
        DUE.is("-1", x.where(-1), -1);
        x.push(0, 0, 1);
        DUE.is("had", x.where(0), -9);
        x.push(0, 0, 2);
        DUE.is("nothing comes of a push of one that is gone", x.peas(0), 1);
        x.law(1);
        DUE.is("nothing comes of it by law 1", x.peas(1), 0);
        x.law(2);
        x.push(0, 1, 2);
        DUE.is("had by law 2", x.peas(0), 3);
        x.law(1);
        DUE.is("by law 1 it was off", x.peas(1), 2);
    }

    private static void peas() {
        PlatePeas x = Due.laid("p33;oom;.o.;o.o;f2");
        int[] law0 = {0, 0, 0, 0b11, 0, 0};
        // Peas 0 to 4 are on the squares 0, 1, 4, 6, 8.
        int[] law2 = {0, 0, 0b00111, 0b10011, 0b11000, 0b01011};
        for (int what = 0; what < 6; what++) {
            DUE.is("law 0, peas " + what, x.peas(what), law0[what]);
        }
        x.law(2);
        for (int what = 0; what < 6; what++) {
            DUE.is("law 2, peas " + what, x.peas(what), law2[what]);
        }
        x.law(1);
        DUE.is("law 1, held up", x.peas(2), 0);
        x.push(0, 0, 3);
        x.push(0, 1, 1);
        DUE.is("had", x.peas(0), 0b10);
        DUE.is("off", x.peas(1), 0b1);
        DUE.is("held right: none that is gone", x.peas(3), 0);
        DUE.is("OUTSIDE", x.peas(6), -2);
        DUE.is("OUTSIDE below", x.peas(-1), -2);
    }

    private static void woulds() {
        PlatePeas x = Due.laid("p26;oo.m..;.o....;f2;s1");
        DUE.is("where, it strikes", x.would(0, 0, 1, 0), 0);
        DUE.is("elsewhere", x.would(0, 0, 1, 2), 0b010);
        DUE.is("had none", x.would(0, 0, 1, 1), 0);
        DUE.is("second eater", x.would(1, 2, 1, 0), 11);
        DUE.is("nothing is changed", x.where(2), 7);
        DUE.is("no push", x.many(4), 0);
        x.push(0, 0, 1);
        DUE.is("would be had", x.would(0, 1, 1, 0), -9);
        DUE.is("had then", x.would(0, 1, 1, 1), 0b010);
        DUE.is("elsewhere, as it is gone", x.would(0, 1, 1, 2), 0b010);
        x.push(0, 1, 1);
        DUE.is("had in all", x.would(0, 0, 1, 1), 0b010);
        DUE.is("STATE", x.would(0, 1, 0, 0), -3);
        DUE.is("OUTSIDE d", x.would(0, 1, 4, 0), -2);
        DUE.is("OUTSIDE d below", x.would(0, 1, -1, 0), -2);
        DUE.is("OUTSIDE what", x.would(0, 1, 0, 3), -2);
        DUE.is("OUTSIDE what below", x.would(0, 1, 0, -1), -2);
        DUE.is("UNKNOWN eater", x.would(2, 1, 4, 3), -1);
        DUE.is("UNKNOWN pea", x.would(0, 3, 4, 3), -1);
        x.law(1);
        DUE.is("would not be off", x.would(0, 2, 1, 0), 9);
        DUE.is("would be off", x.would(1, 2, 3, 0), -9);
        DUE.is("elsewhere, as it is off", x.would(1, 2, 3, 2), 0b100);
        DUE.is("off is not had", x.would(1, 2, 3, 1), 0b010);
    }
}
