/** Part 3 and promises 12 to 15. */
final class SearchEdges {
    private static final int[] BELOW_AND_FAR = {Integer.MIN_VALUE, -9, -1, 1000, Integer.MAX_VALUE};

    private final Sentences s;

    SearchEdges(Sentences s) {
        this.s = s;
    }

    void all() {
        fewest();
        firstRow();
        most();
        wall();
        wallNone();
        row();
        promise12();
        promise13();
        promise14();
        promise15();
        promise15Refusals();
        promise15Faults();
        promise15Cells();
    }

    private void fewestIs(PlatePeas x, int pea, int... codes) {
        s.due(x, codes.length, "fewest", pea, -1);
        for (int q = 0; q < 5; q++) {
            s.due(x, q < codes.length ? codes[q] : -9, "fewest", pea, q);
        }
    }

    private void canNotBe(PlatePeas x, int pea) {
        for (int q = -1; q < 4; q++) {
            s.due(x, -9, "fewest", pea, q);
        }
    }

    // ---- part 3

    private void fewest() {
        s.part(3, "FEWEST for a PEA: the fewest PUSHES more (0 .. 3) by which it is HAD");
        PlatePeas x = Due.laid("p26;o...m.;......;f1");
        canNotBe(x, 0);
        x.push(0, 0, 1);
        fewestIs(x, 0, 1, 1, 1);
        x.push(0, 0, 1);
        fewestIs(x, 0, 1, 1);
        x.push(0, 0, 1);
        fewestIs(x, 0, 1);
        x.push(0, 0, 1);
        fewestIs(x, 0);
        x.push(0, 0, 1);
        fewestIs(x, 0);
        // Off is not had, and can't be any more.
        PlatePeas y = Due.laid("p22;om;..;f1");
        y.law(1);
        y.push(0, 0, 0);
        canNotBe(y, 0);
        // Where there are 30 it is asked what more would do.
        fewestIs(States.pushed30(), 0, 1);
        fewestOfAll();
    }

    private void fewestOfAll() {
        // As many peas and eaters as can be, and no way for any.
        PlatePeas x = Due.laid("p56;o....o;......;..oo..;......;o.....;s4;k2");
        for (int pea = 0; pea < 5; pea++) {
            canNotBe(x, pea);
        }
        s.due(x, 0, "most", 3);
        // By law 2 one in the middle must come to the rim first.
        PlatePeas y = Due.laid("p33;...;.o.;...;f1");
        y.law(2);
        fewestIs(y, 0, 0, 0);
        // One that is gone is not pushed any more.
        PlatePeas z = Due.laid("p26;o.....;o.m...;f1");
        z.law(1);
        z.push(0, 0, 0);
        fewestIs(z, 1, 11, 11);
        canNotBe(z, 0);
    }

    private void firstRow() {
        s.part(3, "as a row of codes (100 times the EATER, 10 times the PEA, and the DIRECTION): of several the first row.");
        fewestIs(Due.laid("p33;.m.;mom;.m.;f1;s4"), 0, 0);
        fewestIs(Due.laid("p33;...;mom;.m.;f1;s4"), 0, 1);
        fewestIs(Due.laid("p33;...;mo.;.m.;f1;s4"), 0, 2);
        fewestIs(Due.laid("p33;...;mo.;...;f1;s4"), 0, 3);
        // Up and to the right is ahead of to the right and up.
        fewestIs(Due.laid("p33;.m.;o..;...;f1;f1"), 0, 0, 1);
        // Pea 1 has a number of its own.
        fewestIs(Due.laid("p33;o..;.om;...;f1;s4"), 1, 11);
        // By force 1 nothing comes to the mash in two; by force 2 of the second eater it does.
        fewestIs(Due.laid("p26;o..m..;......;f1;f2"), 0, 101, 1);
        // It takes another one out of the way, or to lean on: pea 1 goes to the mash, pea 0 behind it.
        fewestIs(Due.laid("p25;oo.m.;.....;f1"), 0, 11, 1, 1);
        // One of the other pea in between is not needed.
        fewestIs(Due.laid("p26;o.m...;.....o;f1"), 0, 1, 1);
    }

    private void most() {
        s.part(3, "MOST by n PUSHES more (0 .. 3, each of a PEA on the PLATE, as long as there are any)");
        PlatePeas x = Due.laid("p22;oo;oo;f1");
        x.law(2);
        for (int n = 0; n < 4; n++) {
            s.due(x, n, "most", n);
        }
        PlatePeas two = Due.laid("p22;o.;.o;f1");
        two.law(2);
        int[] most = {0, 1, 2, 2};
        for (int n = 0; n < 4; n++) {
            s.due(two, most[n], "most", n);
        }
        PlatePeas none = Due.laid("p22;..;..;f1");
        for (int n = 0; n < 4; n++) {
            s.due(none, 0, "most", n);
        }
        PlatePeas middle = Due.laid("p33;...;.o.;...;f1");
        middle.law(2);
        s.due(middle, 0, "most", 1);
        s.due(middle, 1, "most", 2);
        s.part(3, "how many are HAD in all, at most (those that are HAD already, too).");
        x.push(0, 0, 0);
        x.push(0, 3, 1);
        int[] inAll = {2, 3, 4, 4};
        for (int n = 0; n < 4; n++) {
            s.due(x, inAll[n], "most", n);
        }
        // The first code of all is tried, too: up to the corner, then against the mash.
        PlatePeas up = Due.laid("p33;.m.;.g.;o..;f2");
        s.due(up, 0, "most", 1);
        s.due(up, 1, "most", 2);
        // It takes 2 to have it.
        PlatePeas far = Due.laid("p26;o.m...;......;f1");
        int[] byTwo = {0, 0, 1, 1};
        for (int n = 0; n < 4; n++) {
            s.due(far, byTwo[n], "most", n);
        }
    }

    private void wall() {
        s.part(3, "WALL for a PUSH: the BARE SQUARE without PEA that becomes MASH, so that it HAS its PEA: of several the"
            + " least");
        PlatePeas x = Due.laid("p33;...;.o.;...;s4");
        int[] next = {1, 5, 7, 3};
        for (int d = 0; d < 4; d++) {
            s.due(x, next[d], "wall", 0, 0, d);
        }
        // Behind the line of peas that it begins.
        PlatePeas y = Due.laid("p26;.oooo.;o.....;f1");
        s.due(y, 5, "wall", 0, 0, 1);
        s.due(y, 5, "wall", 0, 3, 1);
        s.due(y, 0, "wall", 0, 3, 3);
        s.due(y, 0, "wall", 0, 4, 0);
        // Where peas are behind the pushes, not by the text.
        y.push(0, 4, 0);
        s.due(y, 6, "wall", 0, 4, 2);
        s.due(y, 5, "wall", 0, 4, 1);
        s.due(y, -9, "wall", 0, 0, 3);
        // Where there are 30 pushes.
        s.due(States.pushed30(), 2, "wall", 0, 0, 2);
    }

    private void wallNone() {
        s.part(3, "NONE: no such one (or it does so now).");
        // At the rim, and a line that ends there.
        PlatePeas x = Due.laid("p23;oo.;.o.;f1");
        for (int law = 0; law < 3; law++) {
            x.law(law);
            s.due(x, -9, "wall", 0, 0, 0);
            s.due(x, -9, "wall", 0, 2, 0);
        }
        // Gravy is not bare.
        s.due(Due.laid("p23;og.;...;f1"), -9, "wall", 0, 0, 1);
        s.due(Due.laid("p23;oog;...;f1"), -9, "wall", 0, 0, 1);
        // Held now.
        s.due(Due.laid("p23;om.;...;f1"), -9, "wall", 0, 0, 1);
        s.due(Due.laid("p23;oom;...;f1"), -9, "wall", 0, 0, 1);
    }

    private void row() {
        s.part(3, "A ROW: codes of PUSHES more, one behind another: how many PEAS are HAD in all at its end.");
        PlatePeas x = Due.laid("p26;oo.m..;......;f1;f2");
        Due.write(x, 0, 1, 11, 1, 1, 11, 101, 102);
        int[] had = {0, 0, 0, 1, 2};
        for (int n = 0; n < 5; n++) {
            s.due(x, had[n], "row", 0, 1, 0, n);
        }
        s.due(x, 0, "row", 0, 1, 5, 1);
        s.due(x, 0, "many", 4);
        s.due(x, 0, "where", 0);
        x.push(0, 1, 1);
        x.push(0, 1, 1);
        s.due(x, 1, "row", 0, 1, 0, 0);
        s.due(x, 1, "row", 0, 1, 1, 1);
        PlatePeas y = States.pushed30();
        s.due(y, 1, "row", 1, 2, 0, 1);
    }

    // ---- promises

    private void promise12() {
        s.promise(12, "FEWEST: how many (q -1), the q-th code (0 on)");
        s.asks(States::pushed30, 1, "fewest", 0, -1);
        s.asks(States::pushed30, 1, "fewest", 0, 0);
        s.asks(States::rich, 0, "fewest", 1, -1);
        s.promise(12, "NONE: it can't be, there are fewer.");
        s.asks(States::pushed30, -9, "fewest", 0, 1);
        s.asks(States::pushed30, -9, "fewest", 0, 3);
        s.asks(States::pushed30, -9, "fewest", 0, Integer.MAX_VALUE);
        s.asks(States::rich, -9, "fewest", 1, 0);
        s.asks(States::rich, -9, "fewest", 2, -1);
        s.asks(States::rich, -9, "fewest", 2, 0);
        s.asks(States::seen8, -9, "fewest", 0, -1);
        s.promise(12, "UNKNOWN: PEA, q below -1.");
        s.refused(States::rich, -1, "fewest", 3, -1);
        s.refused(States::bare, -1, "fewest", 0, -1);
        s.refused(States::rich, -1, "fewest", 0, -2);
        s.refused(States::rich, -1, "fewest", 0, -9);
        s.refused(States::rich, -1, "fewest", 0, Integer.MIN_VALUE);
        for (int pea : BELOW_AND_FAR) {
            s.refused(States::rich, -1, "fewest", pea, 0);
        }
    }

    private void promise13() {
        s.promise(13, "MOST by n PUSHES.");
        s.asks(States::rich, 1, "most", 0);
        s.asks(States::rich, 1, "most", 1);
        s.asks(States::rich, 2, "most", 2);
        s.asks(States::rich, 2, "most", 3);
        s.asks(States::pushed30, 0, "most", 0);
        s.asks(States::pushed30, 1, "most", 1);
        s.asks(States::pushed30, 1, "most", 3);
        s.promise(13, "OUTSIDE: n");
        s.refused(States::rich, -2, "most", 4);
        for (int n : BELOW_AND_FAR) {
            s.refused(States::rich, -2, "most", n);
        }
        s.promise(13, "STATE: there is no PLATE.");
        for (int n = 0; n < 4; n++) {
            s.refused(States::bare, -3, "most", n);
        }
    }

    private void promise14() {
        s.promise(14, "WALL");
        s.asks(States::rich, 1, "wall", 0, 0, 1);
        s.asks(States::rich, 4, "wall", 1, 0, 2);
        s.promise(14, "NONE.");
        s.asks(States::rich, -9, "wall", 0, 0, 0);
        s.asks(States::pushed30, -9, "wall", 0, 0, 1);
        s.promise(14, "UNKNOWN: EATER, PEA");
        s.refused(States::rich, -1, "wall", 2, 0, 0);
        s.refused(States::rich, -1, "wall", 0, 3, 0);
        s.refused(States::bare, -1, "wall", 0, 0, 0);
        s.promise(14, "OUTSIDE: d");
        s.refused(States::rich, -2, "wall", 0, 0, 4);
        for (int number : BELOW_AND_FAR) {
            s.refused(States::rich, -1, "wall", number, 0, 0);
            s.refused(States::rich, -1, "wall", 0, number, 0);
            s.refused(States::rich, -2, "wall", 0, 0, number);
        }
        s.promise(14, "STATE: it is not on the PLATE.");
        for (int d = 0; d < 4; d++) {
            s.refused(States::rich, -3, "wall", 0, 1, d);
            s.refused(States::rich, -3, "wall", 1, 2, d);
        }
    }

    /** The rich object; sheet 2 has shorts: codes, and what is none. */
    private static PlatePeas withCodes() {
        PlatePeas x = States.rich();
        Due.write(x, 2, 1, 1, 1, 1, 11, 103, 24, 30, 200, -1, 4, 112, 113, 123, 0);
        x.put(0, 3, 0);
        return x;
    }

    private void promise15() {
        s.promise(15, "A ROW of n such cells: how many are HAD");
        // Pea 0 rolls to 2 before the mash, is had, and is gone then.
        s.asks(SearchEdges::withCodes, 1, "row", 2, 1, 0, 0);
        s.asks(SearchEdges::withCodes, 1, "row", 2, 1, 0, 1);
        s.asks(SearchEdges::withCodes, 2, "row", 2, 1, 0, 2);
        s.asks(SearchEdges::withCodes, 1, "row", 2, 1, 14, 0);
        s.promise(15, "-100 less the first of them of which the PEA is not on the PLATE then.");
        s.asks(SearchEdges::withCodes, -102, "row", 2, 1, 0, 3);
        s.asks(SearchEdges::withCodes, -101, "row", 2, 1, 2, 2);
        s.asks(SearchEdges::withCodes, -100, "row", 2, 1, 3, 1);
        s.asks(SearchEdges::withCodes, -100, "row", 2, 1, 12, 1);
        s.asks(SearchEdges::withCodes, -102, "row", 2, 1, 0, 5);
        s.asks(SearchEdges::withCodes, 1, "row", 2, 1, 13, 1);
        PlatePeas y = Due.laid("p22;..;.o;f1");
        y.sheet(0, 0, 21);
        for (int i = 0; i < 21; i++) {
            y.put(0, i, i == 19 ? 0 : 1);
        }
        y.set(2, 2);
        y.put(0, 18, 3);
        s.due(y, -119, "row", 0, 0, 0, 20);
    }

    private void promise15Refusals() {
        s.promise(15, "UNKNOWN: SHEET");
        for (int sheet : new int[] {Integer.MIN_VALUE, -1, 4, Integer.MAX_VALUE}) {
            s.refused(SearchEdges::withCodes, -1, "row", sheet, 1, 0, 1);
        }
        s.promise(15, "OUTSIDE: lane");
        for (int lane : new int[] {Integer.MIN_VALUE, -1, 3, Integer.MAX_VALUE}) {
            s.refused(SearchEdges::withCodes, -2, "row", 2, lane, 0, 1);
        }
        s.promise(15, "STATE: there is no PLATE");
        s.refused(States::bare, -3, "row", 1, 2, 0, 1);
        s.refused(States::bare, -3, "row", 1, 1, 0, 1);
        s.refused(States::bare, -3, "row", 0, 0, 0, 0);
    }

    private void promise15Faults() {
        s.promise(15, "CAST");
        s.fails(SearchEdges::withCodes, 2, "row", 2, 0, 0, 1);
        s.fails(SearchEdges::withCodes, 2, "row", 2, 2, 0, 0);
        s.promise(15, "NULL");
        for (int lane = 0; lane < 3; lane++) {
            s.fails(States::rich, 1, "row", 2, lane, 0, 0);
        }
        s.promise(15, "SIZE");
        s.fails(SearchEdges::withCodes, 4, "row", 2, 1, 0, -1);
        s.fails(SearchEdges::withCodes, 4, "row", 2, 1, -1, Integer.MIN_VALUE);
        s.promise(15, "INDEX");
        s.fails(SearchEdges::withCodes, 3, "row", 2, 1, -1, 1);
        s.fails(SearchEdges::withCodes, 3, "row", 2, 1, 14, 1);
        s.fails(SearchEdges::withCodes, 3, "row", 2, 1, 15, 0);
        s.fails(SearchEdges::withCodes, 3, "row", 2, 1, 0, 15);
        s.fails(SearchEdges::withCodes, 3, "row", 2, 1, 0, 21);
        s.fails(SearchEdges::withCodes, 3, "row", 2, 1, 2, Integer.MAX_VALUE);
    }

    private static PlatePeas withLongRow() {
        PlatePeas x = States.rich();
        x.sheet(2, 0, 60);
        for (int i = 0; i < 21; i++) {
            // Down and up by a force of 2 from the corner of 3 rows.
            x.put(2, i, i % 2 == 0 ? 2 : 0);
        }
        x.put(2, 59, 99);
        x.put(2, 60, 0);
        return x;
    }

    private void promise15Cells() {
        s.promise(15, "OUTSIDE: n above 20");
        s.asks(SearchEdges::withLongRow, 1, "row", 2, 0, 0, 19);
        s.asks(SearchEdges::withLongRow, 1, "row", 2, 0, 0, 20);
        s.refused(SearchEdges::withLongRow, -2, "row", 2, 0, 0, 21);
        s.refused(SearchEdges::withLongRow, -2, "row", 2, 0, 0, 60);
        s.refused(SearchEdges::withLongRow, -2, "row", 2, 0, 39, 21);
        s.promise(15, "UNKNOWN: a cell is no code of an EATER, a PEA, a DIRECTION.");
        s.refused(SearchEdges::withLongRow, -1, "row", 2, 0, 59, 1);
        for (int i = 5; i < 10; i++) {
            s.refused(SearchEdges::withCodes, -1, "row", 2, 1, i, 1);
        }
        // Ahead of a pea that is gone, wherever it is.
        s.refused(SearchEdges::withCodes, -1, "row", 2, 1, 3, 3);
        s.refused(States::rich, -1, "row", 1, 2, 0, 2);
    }
}
