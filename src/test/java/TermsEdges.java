/** 'Terms', and for how many calls an object is used. */
final class TermsEdges {
    private static final int MIN = Integer.MIN_VALUE, MAX = Integer.MAX_VALUE;

    private final Sentences s;

    TermsEdges(Sentences s) {
        this.s = s;
    }

    void all() {
        uses();
        refusals();
        orderOfRefusals();
        refusalsChangeNothing();
        faults();
        orderOfFaults();
        answersOfFaults();
        sets();
        shares();
        none();
    }

    private void uses() {
        s.use("An object is used for at most 512 calls after it has been made; what later calls answer is free.");
        PlatePeas x = Due.laid("p22;o.;..;f1");
        // To lay the text took 1 + 12 + 1 calls; 497 more make 511.
        for (int k = 0; k < 497; k++) {
            if (k % 31 == 30) {
                x.undo(30);
            } else {
                x.push(0, 0, k % 4);
            }
        }
        // 497 is 16 times 31 and 1: behind the last undo there was one push, up, which turned.
        s.due(x, 0, "where", 0);
    }

    private void refusals() {
        s.terms("REFUSALS: UNKNOWN (there is no such SQUARE, PEA, EATER, SHEET, place)");
        s.refused(States::rich, -1, "sign", 12);
        s.refused(States::rich, -1, "where", 3);
        s.refused(States::rich, -1, "tell", 2);
        s.refused(States::rich, -1, "lose", 4);
        s.refused(States::rich, -1, "fewest", 0, -2);
        s.refused(States::rich, -1, "last", -2);
        s.terms("OUTSIDE (another number is not as told)");
        s.refused(States::rich, -2, "law", 3);
        s.terms("STATE (as told)");
        s.refused(States::bare, -3, "law", 0);
        s.terms("FULL");
        s.refused(States::pushed30, -4, "push", 0, 0, 0);
        s.refused(States::seen8, -4, "reading", 0, 0);
    }

    private void orderOfRefusals() {
        s.terms("of several the first in the order in which a call's line tells them.");
        s.refused(States::rich, -1, "set", 12, 3);
        s.refused(States::rich, -2, "set", 0, 3);
        s.refused(States::rich, -3, "set", 0, 2);
        s.refused(States::rich, -1, "ofEater", 2, 3);
        s.refused(States::bare, -2, "law", 3);
        s.refused(States::pushed30, -1, "push", 1, 0, 4);
        s.refused(States::pushed30, -1, "push", 0, 1, 4);
        s.refused(States::pushed30, -2, "push", 0, 0, 4);
        s.refused(States::bare, -2, "peas", 6);
        s.refused(States::rich, -1, "would", 2, 1, 4, 3);
        s.refused(States::rich, -1, "would", 0, 3, 4, 3);
        s.refused(States::rich, -2, "would", 0, 1, 4, 0);
        s.refused(States::rich, -2, "would", 0, 1, 0, 3);
        s.refused(States::bare, -2, "most", 4);
        s.refused(States::rich, -1, "wall", 2, 1, 4);
        s.refused(States::rich, -1, "wall", 0, 3, 4);
        s.refused(States::rich, -2, "wall", 0, 1, 4);
        s.refused(States::bare, -1, "row", 4, 3, -1, -1);
        s.refused(States::bare, -2, "row", 0, 3, -1, -1);
        s.refused(States::bare, -3, "row", 0, 0, -1, -1);
        s.refused(States::seen8, -1, "reading", 1, 4);
        s.refused(States::seen8, -1, "reading", 0, 4);
        s.refused(States::bare, -1, "last", -2);
        s.refused(States::rich, -1, "plate", 4, 3, -1, -1);
        s.refused(States::rich, -2, "plate", 2, 3, -1, -1);
        s.refused(States::rich, -1, "sheet", 4, 3, 61);
        s.refused(States::rich, -2, "sheet", 0, 3, -1);
        s.refused(States::rich, -1, "as", 2, 3);
        s.refused(States::rich, -2, "as", 0, 3);
    }

    private void refusalsChangeNothing() {
        s.terms("They change nothing (but fault(), of a call that names FAULTS).");
        for (int far : new int[] {MIN, MAX}) {
            s.refused(States::rich, -1, "plate", far, far, far, far);
            s.refused(States::rich, -1, "sign", far);
            s.refused(States::rich, -1, "set", far, far);
            s.refused(States::rich, -1, "ofEater", far, far);
            s.refused(States::rich, -2, "law", far);
            s.refused(States::rich, -1, "push", far, far, far);
            s.refused(States::rich, -2, "undo", far);
            s.refused(States::rich, -1, "where", far);
            s.refused(States::rich, -2, "peas", far);
            s.refused(States::rich, -1, "would", far, far, far, far);
            s.refused(States::rich, -1, "fewest", far, far);
            s.refused(States::rich, -2, "most", far);
            s.refused(States::rich, -1, "wall", far, far, far);
            s.refused(States::rich, -1, "row", far, far, far, far);
            s.refused(States::rich, -1, "odds", far, far, far);
            s.refused(States::rich, -1, "reading", far, far);
            s.refused(States::rich, -2, "back", far);
            s.refused(States::rich, -1, "sheet", far, far, far);
            s.refused(States::rich, -1, "lose", far);
            s.refused(States::rich, -1, "put", far, far, far);
            s.refused(States::rich, -1, "cell", far, far, far);
            s.refused(States::rich, -1, "copy", far, far, far, far, far);
            s.refused(States::rich, -1, "tell", far);
            s.refused(States::rich, -1, "polish", far);
            s.refused(States::rich, -1, "as", far, far);
            s.refused(States::rich, -2, "many", far);
        }
    }

    private void faults() {
        s.terms("FAULTS are the machine's: 1 NULL (there is nothing)");
        s.fails(States::rich, 1, "put", 2, 0, 0);
        s.terms("2 CAST (it is of another LANE, kind)");
        s.fails(States::rich, 2, "cell", 0, 0, 1);
        s.fails(States::rich, 2, "as", 0, 1);
        s.terms("3 INDEX");
        s.fails(States::rich, 3, "put", 0, 3, 0);
        s.terms("(of cells from i on also where i is not 0 .. how many there are, if none of them is taken, too)");
        for (String name : new String[] {"plate", "row"}) {
            s.fails(States::rich, 3, name, 0, 0, -1, 0);
            s.fails(States::rich, 3, name, 0, 0, 4, 0);
            s.fails(States::rich, 3, name, 0, 0, MAX, 0);
            s.fails(States::rich, 3, name, 0, 0, MIN, 0);
            s.asks(States::rich, name.equals("row") ? 1 : -100, name, 0, 0, 3, 0);
            s.asks(States::rich, name.equals("row") ? 1 : -100, name, 0, 0, 0, 0);
        }
        s.fails(States::rich, 3, "copy", 0, 4, 3, 0, 0);
        s.fails(States::rich, 3, "copy", 0, 0, 3, 25, 0);
        s.asks(States::rich, 0, "copy", 0, 3, 3, 24, 0);
        s.terms("4 SIZE (a length below 0).");
        s.fails(States::rich, 4, "sheet", 0, 0, -1);
        s.fails(States::rich, 4, "plate", 0, 0, 0, -1);
        s.fails(States::rich, 4, "row", 0, 0, 0, -1);
    }

    private void orderOfFaults() {
        s.terms("Of a call the first that is come to, in the order told");
        for (String name : new String[] {"plate", "row"}) {
            s.fails(States::rich, 2, name, 0, 1, -1, -1);
            s.fails(States::rich, 1, name, 2, 0, -1, -1);
            s.fails(States::rich, 4, name, 0, 0, -1, -1);
            s.fails(States::rich, 3, name, 0, 0, -1, 1);
        }
        s.fails(States::rich, 1, "put", 2, -1, 0);
        s.fails(States::rich, 2, "cell", 0, -1, 1);
        s.fails(States::rich, 1, "cell", 2, -1, 1);
        s.fails(States::rich, 1, "copy", 2, -1, 0, -1, -1);
        s.fails(States::rich, 1, "copy", 0, -1, 2, -1, -1);
        s.fails(States::rich, 2, "copy", 0, -1, 1, -1, -1);
    }

    private void answersOfFaults() {
        s.terms("it answers -10 less it (LOST, where a long is answered, as for refusals) and changes nothing;"
            + " fault() tells it.");
        PlatePeas x = States.rich();
        s.due(x, -11, "put", 2, 0, 0);
        s.due(x, 1, "fault");
        s.due(x, -12, "copy", 0, 0, 1, 0, 1);
        s.due(x, 2, "fault");
        s.due(x, -13, "put", 0, 3, 0);
        s.due(x, 3, "fault");
        s.due(x, -14, "sheet", 0, 0, -1);
        s.due(x, 4, "fault");
        s.due(x, Long.MIN_VALUE, "cell", 2, 0, 0);
        s.due(x, 1, "fault");
        s.due(x, Long.MIN_VALUE, "cell", 4, 0, 0);
        s.due(x, 0, "fault");
    }

    private void sets() {
        s.terms("Sets are told as bits (bit k for number k).");
        PlatePeas x = Due.laid("p22;oo;oo;f1");
        x.law(2);
        x.push(0, 3, 1);
        s.due(x, 0b1000, "peas", 0);
        PlatePeas y = States.pushed30();
        s.due(y, (1 << 30) - 1, "never");
        s.due(y, 0b111, "laws");
    }

    private void shares() {
        s.terms("Shares are told as upper and lower number (above 0) in least terms.");
        String[] texts = {"p33;...;.o.;...;f1", "p33;.m.;.o.;...;f1", "p33;.m.;mo.;...;f1", "p33;.m.;mom;...;f1",
            "p33;.m.;mom;.m.;f1"};
        int[][] shares = {{0, 1}, {1, 4}, {1, 2}, {3, 4}, {1, 1}};
        for (int k = 0; k < texts.length; k++) {
            PlatePeas x = Due.laid(texts[k]);
            s.due(x, shares[k][0], "odds", 0, 0, 0);
            s.due(x, shares[k][1], "odds", 0, 0, 1);
        }
    }

    private void none() {
        s.terms("NONE is -9.");
        s.is("NONE", PlatePeas.NONE, -9);
        PlatePeas x = States.rich();
        s.due(x, -9, "where", 1);
        s.due(x, -9, "where", 2);
    }
}
