/** Part 5, of sheets, and promises 22 to 26 and 31. */
final class SheetEdges {
    private static final int MIN = Integer.MIN_VALUE, MAX = Integer.MAX_VALUE;
    private static final int[] NO_SHEETS = {MIN, -1, 4, MAX};
    private static final int[] NO_LANES = {MIN, -1, 3, MAX};

    private final Sentences s;

    SheetEdges(Sentences s) {
        this.s = s;
    }

    void all() {
        nothingAtFirst();
        rowsOfNumbers();
        cut();
        promise22();
        promise22Refusals();
        promise23();
        promise24();
        promise25();
        promise25Refusals();
        promise26();
        promise26Same();
        promise26Refusals();
        promise26Index();
        promise31();
        promise31Latest();
    }

    private void cells(PlatePeas x, int sheet, int lane, int... want) {
        for (int i = 0; i < want.length; i++) {
            s.due(x, want[i], "cell", sheet, i, lane);
        }
        s.due(x, PlatePeas.LOST, "cell", sheet, want.length, lane);
        s.due(x, 3, "fault");
    }

    // ---- part 5

    private void nothingAtFirst() {
        s.part(5, "SHEETS 0 .. 3 have nothing (at first)");
        PlatePeas x = new PlatePeas();
        for (int k = -1; k < 5; k++) {
            boolean is = k >= 0 && k < 4;
            s.due(x, is ? -11 : -1, "put", k, 0, 0);
            s.due(x, is ? 0 : -1, "lose", k);
            s.due(x, is ? 1 : -1, "sheet", k, 0, 1);
            s.due(x, is ? 1 : -1, "put", k, 0, 7);
        }
        for (int k = 0; k < 4; k++) {
            s.due(x, 7, "cell", k, 0, 0);
        }
    }

    private void rowsOfNumbers() {
        s.part(5, "or a row of 0 .. 60 numbers (0 at first) of a LANE: 0 bytes, 1 shorts, 2 ints");
        for (int lane = 0; lane < 3; lane++) {
            PlatePeas x = new PlatePeas();
            s.due(x, 1, "sheet", lane, lane, 60);
            for (int i = 0; i < 60; i++) {
                s.due(x, 0, "cell", lane, i, lane);
                x.put(lane, i, i + 1);
            }
            s.due(x, -13, "put", lane, 60, 1);
            s.due(x, 60, "cell", lane, 59, lane);
            s.due(x, 1, "sheet", lane, lane, 60);
            cells(x, lane, lane, new int[60]);
            s.due(x, 1, "sheet", lane, lane, 0);
            cells(x, lane, lane);
            s.due(x, 1, "sheet", lane, lane, 2);
            cells(x, lane, lane, 0, 0);
            s.due(x, -2, "sheet", lane, lane, 61);
            s.due(x, 1, "lose", lane);
        }
    }

    private void cut() {
        s.part(5, "what comes to a cell of it is cut to its LANE.");
        int[] numbers = {127, 128, 255, 256, -128, -129, 32767, 32768, 65535, 65536, -32768, -32769, MIN, MAX};
        int[] bytes = {127, -128, -1, 0, -128, 127, -1, 0, -1, 0, 0, -1, 0, -1};
        int[] shorts = {127, 128, 255, 256, -128, -129, 32767, -32768, -1, 0, -32768, 32767, 0, -1};
        PlatePeas x = new PlatePeas();
        Due.write(x, 0, 0, numbers);
        cells(x, 0, 0, bytes);
        Due.write(x, 0, 1, numbers);
        cells(x, 0, 1, shorts);
        Due.write(x, 0, 2, numbers);
        cells(x, 0, 2, numbers);
    }

    // ---- promises

    private void promise22() {
        s.promise(22, "A SHEET gets a new row: 1.");
        PlatePeas x = States.rich();
        s.due(x, 1, "sheet", 0, 1, 2);
        s.due(x, 0, "fault");
        cells(x, 0, 1, 0, 0);
        s.due(x, PlatePeas.LOST, "cell", 0, 0, 0);
        s.due(x, 2, "fault");
        s.due(x, 1, "sheet", 2, 0, 0);
        s.due(x, -13, "put", 2, 0, 0);
        s.due(x, 1, "sheet", 3, 2, 60);
        s.due(x, 1, "put", 3, 59, 0);
        cells(x, 1, 2, 1, 70001);
        // The plate is not of the sheet any more.
        s.due(x, 12, "many", 0);
        s.due(x, 3, "many", 4);
    }

    private void promise22Refusals() {
        s.promise(22, "UNKNOWN");
        for (int k : NO_SHEETS) {
            s.refused(States::rich, -1, "sheet", k, 0, 1);
        }
        s.promise(22, "OUTSIDE: lane, n above 60");
        for (int lane : NO_LANES) {
            s.refused(States::rich, -2, "sheet", 0, lane, 1);
            s.refused(States::rich, -2, "sheet", 0, lane, -1);
        }
        s.refused(States::rich, -2, "sheet", 0, 0, 61);
        s.refused(States::rich, -2, "sheet", 2, 2, MAX);
        s.promise(22, "SIZE.");
        s.fails(States::rich, 4, "sheet", 0, 0, -1);
        s.fails(States::rich, 4, "sheet", 2, 2, MIN);
    }

    private void promise23() {
        s.promise(23, "A SHEET has nothing: 1");
        PlatePeas x = States.rich();
        s.due(x, 1, "lose", 0);
        s.due(x, -11, "put", 0, 0, 0);
        s.due(x, 1, "lose", 3);
        s.due(x, 12, "many", 0);
        x.sheet(2, 0, 0);
        s.due(x, 1, "lose", 2);
        cells(x, 1, 2, 1, 70001);
        s.promise(23, "0: it had nothing.");
        s.due(x, 0, "lose", 0);
        s.due(x, 0, "lose", 2);
        s.asks(States::rich, 0, "lose", 2);
        // A row that it gets then is new.
        x.sheet(0, 0, 3);
        cells(x, 0, 0, 0, 0, 0);
        s.promise(23, "UNKNOWN.");
        for (int k : NO_SHEETS) {
            s.refused(States::rich, -1, "lose", k);
        }
    }

    private void promise24() {
        s.promise(24, "Cell i of a SHEET becomes v: 1.");
        PlatePeas x = States.rich();
        s.due(x, 1, "put", 0, 0, 9);
        s.due(x, 0, "fault");
        s.due(x, 1, "put", 0, 2, -9);
        cells(x, 0, 0, 9, -6, -9);
        cells(x, 1, 2, 1, 70001);
        s.promise(24, "UNKNOWN");
        for (int k : NO_SHEETS) {
            s.refused(States::rich, -1, "put", k, 0, 0);
        }
        s.promise(24, "NULL");
        s.fails(States::rich, 1, "put", 2, 0, 0);
        s.fails(States::rich, 1, "put", 2, MAX, 0);
        s.promise(24, "INDEX.");
        for (int i : new int[] {MIN, -1, 3, 59, 60, MAX}) {
            s.fails(States::rich, 3, "put", 0, i, 1);
        }
        PlatePeas none = new PlatePeas();
        none.sheet(0, 0, 0);
        s.due(none, -13, "put", 0, 0, 1);
    }

    private void promise25() {
        s.promise(25, "Cell i of what a SHEET has, taken as a row of a LANE.");
        s.asks(States::rich, 5, "cell", 0, 0, 0);
        s.asks(States::rich, 7, "cell", 0, 2, 0);
        s.asks(States::rich, 70001, "cell", 1, 1, 2);
        s.asks(States::rich, '1', "cell", 3, 23, 0);
    }

    private void promise25Refusals() {
        s.promise(25, "LOST: UNKNOWN, OUTSIDE: lane");
        for (int k : NO_SHEETS) {
            s.refused(States::rich, -1, "cell", k, 0, 0);
        }
        for (int lane : NO_LANES) {
            s.refused(States::rich, -2, "cell", 0, 0, lane);
            s.refused(States::rich, -2, "cell", 2, 0, lane);
        }
        s.promise(25, "FAULTS CAST (nothing is no CAST)");
        s.fails(States::rich, 2, "cell", 0, 0, 1);
        s.fails(States::rich, 2, "cell", 0, -1, 2);
        s.fails(States::rich, 2, "cell", 1, 0, 0);
        s.fails(States::rich, 1, "cell", 2, 0, 1);
        s.promise(25, "NULL");
        for (int lane = 0; lane < 3; lane++) {
            s.fails(States::rich, 1, "cell", 2, 0, lane);
            s.fails(States::rich, 1, "cell", 2, -1, lane);
        }
        s.promise(25, "INDEX.");
        for (int i : new int[] {MIN, -1, 3, 59, 60, MAX}) {
            s.fails(States::rich, 3, "cell", 0, i, 0);
        }
    }

    private void promise26() {
        s.promise(26, "n cells of a SHEET from i on go to another one");
        PlatePeas x = new PlatePeas();
        Due.write(x, 0, 1, 1, -2, 300, 4);
        Due.write(x, 3, 1, 9, 9, 9);
        s.due(x, 0, "copy", 0, 0, 3, 0, 0);
        cells(x, 3, 1, 9, 9, 9);
        s.due(x, 2, "copy", 0, 1, 3, 1, 2);
        s.due(x, 0, "fault");
        cells(x, 3, 1, 9, -2, 300);
        s.due(x, 3, "copy", 0, 1, 3, 0, 3);
        cells(x, 3, 1, -2, 300, 4);
        s.due(x, 3, "copy", 3, 0, 0, 0, 3);
        cells(x, 0, 1, -2, 300, 4, 4);
        // Each has cells of its own still.
        x.put(0, 0, 5);
        s.due(x, -2, "cell", 3, 0, 1);
    }

    private void promise26Same() {
        s.promise(26, "(perhaps the same) from j on, as they were: n.");
        PlatePeas x = new PlatePeas();
        Due.write(x, 0, 2, 1, 2, 3, 4, 5);
        s.due(x, 4, "copy", 0, 0, 0, 1, 4);
        cells(x, 0, 2, 1, 1, 2, 3, 4);
        s.due(x, 3, "copy", 0, 2, 0, 1, 3);
        cells(x, 0, 2, 1, 2, 3, 4, 4);
        s.due(x, 5, "copy", 0, 0, 0, 0, 5);
        cells(x, 0, 2, 1, 2, 3, 4, 4);
    }

    private void promise26Refusals() {
        s.promise(26, "UNKNOWN");
        for (int k : NO_SHEETS) {
            s.refused(States::rich, -1, "copy", k, 0, 0, 0, 0);
            s.refused(States::rich, -1, "copy", 0, 0, k, 0, 0);
            s.refused(States::rich, -1, "copy", 2, 0, k, 0, 0);
        }
        s.promise(26, "FAULTS NULL (the first, the other)");
        s.fails(States::rich, 1, "copy", 2, 0, 0, 0, 0);
        s.fails(States::rich, 1, "copy", 0, 0, 2, 0, 0);
        s.fails(States::rich, 1, "copy", 2, -1, 2, -1, -1);
        s.promise(26, "CAST (unlike LANES)");
        s.fails(States::rich, 2, "copy", 0, 0, 1, 0, 0);
        s.fails(States::rich, 2, "copy", 1, 9, 3, 99, -1);
    }

    private void promise26Index() {
        s.promise(26, "INDEX: i, j, n below 0 or beyond.");
        for (int bad : new int[] {MIN, -1, 4, MAX}) {
            s.fails(States::rich, 3, "copy", 3, 0, 0, bad, 0);
            s.fails(States::rich, 3, "copy", 0, bad, 3, 0, 0);
            s.fails(States::rich, 3, "copy", 0, 0, 3, 0, bad);
            s.fails(States::rich, 3, "copy", 3, 0, 0, 0, bad);
        }
        s.fails(States::rich, 3, "copy", 0, 1, 3, 0, 3);
        s.fails(States::rich, 3, "copy", 3, 0, 0, 1, 3);
        s.fails(States::rich, 3, "copy", 0, 3, 3, 0, 1);
        s.fails(States::rich, 3, "copy", 3, 24, 0, 0, 1);
        s.fails(States::rich, 3, "copy", 0, 1, 3, 1, MAX);
        s.fails(States::rich, 3, "copy", 0, MAX, 3, MAX, MAX);
        s.asks(States::rich, 0, "copy", 0, 3, 3, 24, 0);
    }

    private void promise31() {
        s.promise(31, "(0 ahead of any).");
        s.due(new PlatePeas(), 0, "fault");
        s.promise(31, "0: it came to none, or was refused");
        PlatePeas x = States.rich();
        s.due(x, 3, "fault");
        String[] names = {"plate", "plate", "row", "row", "row", "sheet", "sheet", "put", "put", "cell", "cell", "copy",
            "copy", "as", "as"};
        int[][] numbers = {{4, 0, 0, 0}, {1, 2, 0, 0}, {1, 2, 0, 1}, {4, 0, 0, 0}, {1, 2, 1, 1}, {2, 0, 1}, {4, 0, 1},
            {1, 0, 1}, {4, 0, 0}, {1, 0, 2}, {4, 0, 0}, {1, 0, 1, 0, 1}, {4, 0, 0, 0, 0}, {0, 0}, {0, 3}};
        for (int k = 0; k < names.length; k++) {
            x.put(1, 2, 0);
            s.due(x, 3, "fault");
            Calls.of(x, names[k], numbers[k]);
            s.is("fault behind " + Calls.told(names[k], numbers[k]), x.fault(), 0);
        }
    }

    private void promise31Latest() {
        s.promise(31, "The FAULT of the latest call that names one");
        PlatePeas x = States.rich();
        String[] names = {"sign", "set", "ofEater", "law", "push", "undo", "where", "peas", "would", "fewest", "most",
            "wall", "odds", "reading", "back", "last", "laws", "never", "lose", "tell", "polish", "trace", "fault",
            "many", "lose", "law"};
        int[][] numbers = {{0}, {11, 1}, {0, 0}, {0}, {0, 0, 1}, {1}, {0}, {0}, {0, 0, 0, 0}, {0, 0}, {1}, {0, 0, 0},
            {0, 0, 0}, {0, 0}, {1}, {0}, {}, {}, {0}, {0}, {0}, {}, {}, {0}, {4}, {3}};
        for (int k = 0; k < names.length; k++) {
            Calls.of(x, names[k], numbers[k]);
            s.is("fault behind " + Calls.told(names[k], numbers[k]), x.fault(), 3);
        }
        s.due(x, -12, "as", 0, 2);
        s.due(x, 2, "fault");
        s.due(x, -11, "put", 2, 0, 0);
        s.due(x, 1, "fault");
        s.due(x, 1, "fault");
    }
}
