/** Promises 22 to 26 and 31: sheet, lose, put, cell, copy, and the faults of each. */
public final class SheetTest {
    private static final Due DUE = new Due("SheetTest");
    private static final long LOST = Long.MIN_VALUE;

    public static void main(String[] args) {
        sheets();
        lose();
        put();
        cells();
        copy();
        faultsOfCopy();
        faults();
        DUE.end();
    }

    private static void sheets() {
        PlatePeas x = new PlatePeas();
        DUE.is("new", x.sheet(0, 2, 2), 1);
        x.put(0, 0, 7);
        DUE.is("new again", x.sheet(0, 2, 2), 1);
        DUE.is("0 at first", x.cell(0, 0, 2), 0);
        DUE.is("60", x.sheet(3, 0, 60), 1);
        DUE.is("the last of 60", x.put(3, 59, 1), 1);
        DUE.is("none", x.sheet(1, 1, 0), 1);
        DUE.is("no cell of none", x.put(1, 0, 1), -13);
        DUE.is("none is not nothing", x.lose(1), 1);
        DUE.is("UNKNOWN", x.sheet(4, 3, 61), -1);
        DUE.is("UNKNOWN below", x.sheet(-1, 0, 0), -1);
        DUE.is("OUTSIDE lane", x.sheet(0, 3, -1), -2);
        DUE.is("OUTSIDE lane below", x.sheet(0, -1, 1), -2);
        DUE.is("OUTSIDE n", x.sheet(0, 0, 61), -2);
        DUE.is("OUTSIDE n far", x.sheet(0, 0, Integer.MAX_VALUE), -2);
        DUE.is("fault", x.fault(), 0);
        DUE.is("SIZE", x.sheet(0, 0, -1), -14);
        DUE.is("fault SIZE", x.fault(), 4);
        DUE.is("SIZE far", x.sheet(0, 0, Integer.MIN_VALUE), -14);
        DUE.is("the sheet stays", x.cell(0, 1, 2), 0);
    }

    private static void lose() {
        PlatePeas x = new PlatePeas();
        DUE.is("nothing", x.lose(2), 0);
        x.sheet(2, 0, 3);
        DUE.is("a row", x.lose(2), 1);
        DUE.is("no more", x.lose(2), 0);
        DUE.is("UNKNOWN", x.lose(4), -1);
        DUE.is("UNKNOWN below", x.lose(-1), -1);
        x.put(2, 0, 0);
        x.lose(2);
        DUE.is("lose names no fault", x.fault(), 1);
    }

    private static void put() {
        PlatePeas x = new PlatePeas();
        DUE.is("NULL", x.put(0, -1, 0), -11);
        DUE.is("fault NULL", x.fault(), 1);
        x.sheet(0, 0, 3);
        DUE.is("put", x.put(0, 2, 5), 1);
        DUE.is("fault", x.fault(), 0);
        DUE.is("INDEX", x.put(0, 3, 5), -13);
        DUE.is("fault INDEX", x.fault(), 3);
        DUE.is("INDEX below", x.put(0, -1, 5), -13);
        DUE.is("UNKNOWN", x.put(4, 0, 5), -1);
        DUE.is("fault of UNKNOWN", x.fault(), 0);
        DUE.is("UNKNOWN below", x.put(-1, 0, 5), -1);
    }

    private static void cells() {
        int[] numbers = {128, -129, 32768, -32769, 70001, Integer.MIN_VALUE, 255};
        long[][] want = {
            {-128, 127, 0, -1, 113, 0, -1},
            {128, -129, -32768, 32767, 4465, 0, 255},
            {128, -129, 32768, -32769, 70001, Integer.MIN_VALUE, 255}};
        PlatePeas x = new PlatePeas();
        for (int lane = 0; lane < 3; lane++) {
            Due.write(x, 1, lane, numbers);
            for (int i = 0; i < numbers.length; i++) {
                DUE.is("cell " + i + " of lane " + lane, x.cell(1, i, lane), want[lane][i]);
            }
            DUE.is("INDEX", x.cell(1, 7, lane), LOST);
            DUE.is("fault INDEX", x.fault(), 3);
            DUE.is("INDEX below", x.cell(1, -1, lane), LOST);
            DUE.is("fault INDEX", x.fault(), 3);
            DUE.is("CAST before INDEX", x.cell(1, 7, (lane + 1) % 3), LOST);
            DUE.is("fault CAST", x.fault(), 2);
            DUE.is("OUTSIDE", x.cell(1, 0, 3), LOST);
            DUE.is("fault of OUTSIDE", x.fault(), 0);
        }
        DUE.is("NULL", x.cell(0, -1, 1), LOST);
        DUE.is("fault NULL", x.fault(), 1);
        DUE.is("UNKNOWN", x.cell(4, 0, 0), LOST);
        DUE.is("fault of UNKNOWN", x.fault(), 0);
    }

    private static void cellsAre(PlatePeas x, int sheet, int lane, int... want) {
        for (int i = 0; i < want.length; i++) {
            DUE.is("cell " + i + " of sheet " + sheet, x.cell(sheet, i, lane), want[i]);
        }
    }

    private static void copy() {
        PlatePeas x = new PlatePeas();
        Due.write(x, 0, 1, 1, 2, 3, 4, 5);
        Due.write(x, 1, 1, 9, 9, 9);
        DUE.is("to another", x.copy(0, 1, 1, 0, 2), 2);
        cellsAre(x, 1, 1, 2, 3, 9);
        DUE.is("to the right in the same", x.copy(0, 0, 0, 1, 4), 4);
        cellsAre(x, 0, 1, 1, 1, 2, 3, 4);
        DUE.is("to the left in the same", x.copy(0, 1, 0, 0, 4), 4);
        cellsAre(x, 0, 1, 1, 2, 3, 4, 4);
        DUE.is("none", x.copy(0, 5, 1, 3, 0), 0);
        DUE.is("all", x.copy(0, 0, 0, 0, 5), 5);
        DUE.is("fault", x.fault(), 0);
        x.sheet(0, 1, 5);
        DUE.is("the other has its own cells", x.cell(1, 0, 1), 2);
    }

    private static void faultsOfCopy() {
        PlatePeas x = new PlatePeas();
        x.put(0, 0, 0);
        DUE.is("UNKNOWN", x.copy(4, 0, 0, 0, 0), -1);
        DUE.is("UNKNOWN other", x.copy(0, 0, 4, 0, 0), -1);
        DUE.is("UNKNOWN below", x.copy(0, 0, -1, 0, 0), -1);
        DUE.is("fault", x.fault(), 0);
        x.sheet(0, 0, 5);
        DUE.is("NULL first", x.copy(1, 9, 0, 9, 9), -11);
        DUE.is("fault NULL", x.fault(), 1);
        DUE.is("NULL other", x.copy(0, 9, 1, 9, 9), -11);
        x.sheet(1, 2, 3);
        DUE.is("CAST", x.copy(0, 9, 1, 9, 9), -12);
        DUE.is("fault CAST", x.fault(), 2);
        x.sheet(1, 0, 3);
        DUE.is("INDEX i", x.copy(0, -1, 1, 0, 0), -13);
        DUE.is("fault INDEX", x.fault(), 3);
        DUE.is("INDEX i beyond", x.copy(0, 6, 1, 0, 0), -13);
        DUE.is("INDEX j", x.copy(0, 0, 1, -1, 0), -13);
        DUE.is("INDEX j beyond", x.copy(0, 0, 1, 4, 0), -13);
        DUE.is("INDEX n", x.copy(0, 0, 1, 0, -1), -13);
        DUE.is("INDEX n beyond the other", x.copy(0, 0, 1, 0, 4), -13);
        DUE.is("INDEX n beyond the first", x.copy(0, 3, 0, 0, 3), -13);
        DUE.is("INDEX far", x.copy(0, 1, 1, 1, Integer.MAX_VALUE), -13);
        DUE.is("INDEX far below", x.copy(0, Integer.MIN_VALUE, 1, 1, Integer.MIN_VALUE), -13);
    }

    private static void faults() {
        PlatePeas x = new PlatePeas();
        DUE.is("ahead of any", x.fault(), 0);
        x.put(0, 0, 0);
        x.many(0);
        x.sign(0);
        x.push(0, 0, 0);
        x.trace();
        DUE.is("of the latest call that names one", x.fault(), 1);
        DUE.is("asking does not change it", x.fault(), 1);
        x.sheet(0, 0, 1);
        DUE.is("that came to none", x.fault(), 0);
        x.put(0, 1, 0);
        DUE.is("INDEX", x.fault(), 3);
        x.as(0, 0);
        DUE.is("that was refused", x.fault(), 0);
        x.put(0, 1, 0);
        x.row(0, 0, 0, 0);
        DUE.is("that was refused: a row", x.fault(), 0);
        x.put(0, 1, 0);
        x.plate(0, 0, 0, 1);
        DUE.is("a text that is not taken", x.fault(), 0);
    }
}
