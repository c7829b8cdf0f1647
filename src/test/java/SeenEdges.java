/** Part 4 and promises 16 to 21. */
final class SeenEdges {
    private static final int[] BELOW_AND_FAR = {Integer.MIN_VALUE, -10, -1, 1000, Integer.MAX_VALUE};

    private final Sentences s;

    SeenEdges(Sentences s) {
        this.s = s;
    }

    void all() {
        odds();
        readings();
        last();
        lastWhereThereAre30();
        laws();
        never();
        promise16();
        promise17();
        promise18();
        promise19();
        promise20();
        promise21();
    }

    private void oddsAre(PlatePeas x, int e, int pea, int upper, int lower) {
        s.due(x, upper, "odds", e, pea, 0);
        s.due(x, lower, "odds", e, pea, 1);
    }

    private void lastIs(PlatePeas x, int... codes) {
        s.due(x, codes.length, "last", -1);
        for (int k = 0; k < codes.length + 2; k++) {
            s.due(x, k < codes.length ? codes[k] : -9, "last", k);
        }
    }

    // ---- part 4

    private void odds() {
        s.part(4, "ODDS of an EATER and a PEA: if it pushes in each DIRECTION alike, the share of those by which that PEA"
            + " is HAD.");
        PlatePeas x = Due.laid("p23;o.o;oom;f1;s4");
        // Pea 0 in a corner, 1 above the mash, 2 and 3 in a row before it.
        int[][] law0 = {{0, 1}, {1, 4}, {1, 4}, {1, 4}};
        int[][] law2 = {{3, 4}, {3, 4}, {1, 1}, {3, 4}};
        for (int e = 0; e < 2; e++) {
            for (int pea = 0; pea < 4; pea++) {
                x.law(0);
                oddsAre(x, e, pea, law0[pea][0], law0[pea][1]);
                x.law(2);
                oddsAre(x, e, pea, law2[pea][0], law2[pea][1]);
            }
        }
        // Off is not had.
        PlatePeas y = Due.laid("p22;o.;..;s4");
        y.law(1);
        oddsAre(y, 0, 0, 0, 1);
        // Where there are 30 pushes.
        oddsAre(States.pushed30(), 0, 0, 1, 4);
    }

    private void readings() {
        s.part(4, "READINGS, 8 at most, numbered by how many there are");
        PlatePeas x = Due.laid("p22;o.;..;f1");
        for (int k = 0; k < 8; k++) {
            s.due(x, k, "reading", 0, k % 4);
            s.due(x, k + 1, "many", 5);
        }
        s.due(x, -4, "reading", 0, 0);
        s.due(x, 8, "many", 5);
        s.due(x, 7, "back", 1);
        s.due(x, 7, "reading", 0, 0);
        s.part(4, "a PEA was seen on a SQUARE, or nowhere.");
        PlatePeas y = Due.laid("p22;om;..;f1");
        s.due(y, 0, "reading", 0, 0);
        s.due(y, 0b111, "laws");
        y.push(0, 0, 1);
        s.due(y, 0, "laws");
        y.back(1);
        s.due(y, 0, "reading", 0, -9);
        s.due(y, 0b111, "laws");
    }

    private void last() {
        s.part(4, "LAST: PUSHES such that one more");
        PlatePeas x = Due.laid("p26;o.m...;......;f1;f2");
        x.reading(0, 1);
        // To the right; to the left force 2 turns and goes there.
        lastIs(x, 1, 101, 103);
        x.back(1);
        x.reading(0, -9);
        lastIs(x);
        x.push(0, 0, 1);
        lastIs(x, 1, 101);
        s.due(x, 1, "many", 4);
        s.part(4, "done at last, makes all READINGS so: as codes, rising.");
        x.back(1);
        lastIs(x, 0, 1, 2, 3, 100, 101, 102, 103);
        // From 1: up turns, down and left go; force 2 turns up and goes down, goes down and turns.
        x.reading(0, 7);
        lastIs(x, 2, 100, 102);
        x.reading(0, 8);
        lastIs(x);
        PlatePeas all = Due.laid("p56;ooooo." + ";......".repeat(4) + ";f1;k4");
        s.due(all, 40, "last", -1);
        s.due(all, 0, "last", 0);
        s.due(all, 43, "last", 19);
        s.due(all, 100, "last", 20);
        s.due(all, 143, "last", 39);
        s.due(all, -9, "last", 40);
    }

    private void lastWhereThereAre30() {
        s.part(4, "(also where there are 30)");
        PlatePeas x = States.pushed30();
        lastIs(x, 0, 1, 2, 3);
        x.reading(0, -9);
        lastIs(x, 1);
        x.back(1);
        x.reading(0, 0);
        lastIs(x, 0, 3);
        s.due(x, 30, "many", 4);
    }

    private void laws() {
        s.part(4, "LAWS: those by which all READINGS are so by the PUSHES, as a set.");
        PlatePeas x = Due.laid("p23;.o.;...;f3");
        s.due(x, 0b111, "laws");
        x.push(0, 0, 1);
        s.due(x, 0b111, "laws");
        // To 2 and there: it turns and comes back to 1, is off, stops.
        int[] spots = {1, -9, 2};
        for (int law = 0; law < 3; law++) {
            x.reading(0, spots[law]);
            s.due(x, 1 << law, "laws");
            x.back(1);
        }
        x.reading(0, 0);
        s.due(x, 0, "laws");
        x.back(1);
        x.reading(0, 2);
        x.reading(0, 1);
        s.due(x, 0, "laws");
        s.due(x, 0, "many", 6);
        s.due(x, 1, "where", 0);
    }

    private void never() {
        s.part(4, "NEVER: PUSHES without each of which (alone) all READINGS are so, as a set.");
        PlatePeas x = Due.laid("p23;o..;...;f1");
        s.due(x, 0, "never");
        x.push(0, 0, 1);
        s.due(x, 1, "never");
        x.push(0, 0, 1);
        x.reading(0, 1);
        // Without either, though not without both.
        s.due(x, 0b11, "never");
        x.back(1);
        x.reading(0, 0);
        s.due(x, 0, "never");
        x.back(1);
        x.reading(0, 2);
        s.due(x, 0, "never");
        x.push(0, 0, 2);
        s.due(x, 0b100, "never");
        x.reading(0, 1);
        s.due(x, 0, "never");
        PlatePeas y = States.pushed30();
        y.undo(1);
        y.push(0, 0, 1);
        s.due(y, (1 << 30) - 1, "never");
        y.reading(0, 0);
        s.due(y, 1 << 29, "never");
    }

    // ---- promises

    private void promise16() {
        s.promise(16, "ODDS (which 0 the upper, 1 the lower number).");
        s.asks(States::rich, 0, "odds", 0, 0, 0);
        s.asks(States::rich, 1, "odds", 0, 0, 1);
        s.asks(States::pushed30, 1, "odds", 0, 0, 0);
        s.asks(States::pushed30, 4, "odds", 0, 0, 1);
        s.promise(16, "LOST: UNKNOWN: EATER, PEA");
        s.refused(States::rich, -1, "odds", 2, 0, 0);
        s.refused(States::rich, -1, "odds", 0, 3, 0);
        s.refused(States::bare, -1, "odds", 0, 0, 0);
        s.promise(16, "OUTSIDE: which");
        s.refused(States::rich, -2, "odds", 0, 0, 2);
        for (int number : BELOW_AND_FAR) {
            s.refused(States::rich, -1, "odds", number, 0, 0);
            s.refused(States::rich, -1, "odds", 0, number, 0);
            s.refused(States::rich, -2, "odds", 0, 0, number);
        }
        s.promise(16, "STATE: it is not on the PLATE.");
        for (int which = 0; which < 2; which++) {
            s.refused(States::rich, -3, "odds", 0, 1, which);
            s.refused(States::rich, -3, "odds", 1, 2, which);
        }
    }

    private void promise17() {
        s.promise(17, "A READING: its number (c NONE: nowhere).");
        PlatePeas x = States.rich();
        s.due(x, 2, "reading", 2, -9);
        s.due(x, 3, "reading", 0, 0);
        s.due(x, 4, "reading", 0, 11);
        s.due(x, 5, "many", 5);
        s.promise(17, "UNKNOWN: PEA, SQUARE");
        s.refused(States::rich, -1, "reading", 3, 0);
        s.refused(States::rich, -1, "reading", 3, -9);
        s.refused(States::rich, -1, "reading", -9, -9);
        s.refused(States::rich, -1, "reading", 0, 12);
        s.refused(States::rich, -1, "reading", 0, -8);
        s.refused(States::bare, -1, "reading", 0, -9);
        for (int number : BELOW_AND_FAR) {
            s.refused(States::rich, -1, "reading", number, 0);
            s.refused(States::rich, -1, "reading", 0, number);
        }
        s.promise(17, "FULL.");
        s.refused(States::seen8, -4, "reading", 0, 0);
        s.refused(States::seen8, -4, "reading", 0, -9);
        PlatePeas y = States.seen8();
        y.back(8);
        s.due(y, 0, "reading", 0, 0);
    }

    private void promise18() {
        s.promise(18, "The last k READINGS (0 .. as many as there are) are taken back: how many are left.");
        PlatePeas x = Due.laid("p22;o.;..;f1");
        x.reading(0, 0);
        x.reading(0, 0);
        x.reading(0, 3);
        s.due(x, 3, "back", 0);
        s.due(x, 0, "laws");
        s.due(x, 2, "back", 1);
        s.due(x, 0b111, "laws");
        s.due(x, 0, "back", 2);
        s.due(x, 0, "back", 0);
        s.due(States.seen8(), 0, "back", 8);
        s.asks(States::bare, 0, "back", 0);
        s.promise(18, "OUTSIDE.");
        s.refused(States::rich, -2, "back", 3);
        s.refused(States::bare, -2, "back", 1);
        s.refused(States::seen8, -2, "back", 9);
        for (int k : BELOW_AND_FAR) {
            s.refused(States::rich, -2, "back", k);
        }
    }

    private void promise19() {
        s.promise(19, "LAST: how many (k -1), the k-th code");
        // Pea 1 is gone and pea 0 where it was seen, unless pea 0 is pushed: it rolls away, or off.
        s.asks(States::rich, 16, "last", -1);
        s.asks(States::rich, 10, "last", 0);
        s.asks(States::rich, 23, "last", 7);
        s.asks(States::rich, 110, "last", 8);
        s.asks(States::rich, 123, "last", 15);
        s.promise(19, "NONE: there are fewer.");
        s.asks(States::rich, -9, "last", 16);
        s.asks(States::rich, -9, "last", Integer.MAX_VALUE);
        PlatePeas none = Due.laid("p22;..;..;f1");
        s.due(none, 0, "last", -1);
        s.due(none, -9, "last", 0);
        s.promise(19, "UNKNOWN: k below -1");
        s.refused(States::rich, -1, "last", -2);
        s.refused(States::rich, -1, "last", -9);
        s.refused(States::rich, -1, "last", Integer.MIN_VALUE);
        s.promise(19, "STATE: there is no PLATE.");
        s.refused(States::bare, -3, "last", -1);
        s.refused(States::bare, -3, "last", 0);
        s.refused(States::bare, -3, "last", Integer.MAX_VALUE);
    }

    private void promise20() {
        s.promise(20, "LAWS, as a set.");
        s.asks(States::rich, 0b111, "laws");
        s.asks(States::seen8, 0b111, "laws");
        s.due(Due.laid("p22;..;..;f1"), 0b111, "laws");
        s.promise(20, "STATE: there is no PLATE.");
        s.refused(States::bare, -3, "laws");
    }

    private void promise21() {
        s.promise(21, "NEVER, as a set.");
        s.asks(States::rich, 0b100, "never");
        s.asks(States::pushed30, (1 << 30) - 1, "never");
        s.asks(States::seen8, 0, "never");
        s.promise(21, "STATE: there is no PLATE.");
        s.refused(States::bare, -3, "never");
    }
}
