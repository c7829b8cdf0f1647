/** Promises 12 to 15: fewest, most, wall, row. */
public final class SearchTest {
    private static final Due DUE = new Due("SearchTest");

    public static void main(String[] args) {
        fewest();
        fewestFirstRow();
        fewestByThree();
        most();
        walls();
        wallsBehindPushes();
        rows();
        refusedRows();
        DUE.end();
    }

    private static void fewestIs(PlatePeas x, int pea, int... codes) {
        DUE.is("how many for " + pea, x.fewest(pea, -1), codes.length);
        for (int q = 0; q < 5; q++) {
            DUE.is("code " + q + " for " + pea, x.fewest(pea, q), q < codes.length ? codes[q] : -9);
        }
    }

    private static void fewest() {
        PlatePeas x = Due.laid("p26;o..m..;.....o;f2;k1");
        fewestIs(x, 0, 1, 1);
        // To the square below the mash, then up.
        fewestIs(x, 1, 13, 10);
        DUE.is("UNKNOWN pea", x.fewest(2, -1), -1);
        DUE.is("UNKNOWN pea below", x.fewest(-1, -1), -1);
        DUE.is("UNKNOWN q", x.fewest(0, -2), -1);
        DUE.is("far q", x.fewest(0, Integer.MAX_VALUE), -9);
        x.push(0, 0, 1);
        fewestIs(x, 0, 1);
        x.push(0, 0, 1);
        fewestIs(x, 0);
        x.undo(1);
        x.law(1);
        x.push(0, 0, 0);
        DUE.is("off", x.peas(1), 1);
        DUE.is("one that is off can't be had", x.fewest(0, -1), -9);
    }

    private static void fewestFirstRow() {
        PlatePeas x = Due.laid("p33;.m.;mom;.m.;s4;f1");
        fewestIs(x, 0, 0);
        x.set(1, 0);
        fewestIs(x, 0, 1);
        // Force 10 goes past and comes back, 1 goes to the mash: of eater 1's row and others the first.
        PlatePeas y = Due.laid("p24;o.m.;....;s1;f1");
        fewestIs(y, 0, 1, 1);
        PlatePeas z = Due.laid("p25;oo.m.;.....;f1;f2");
        // Pea 1 pushed up turns round and stays; it must go to the mash first, or pea 0 strikes it.
        fewestIs(z, 1, 11, 11);
        fewestIs(z, 0, 11, 1, 1);
    }

    private static void fewestByThree() {
        PlatePeas x = Due.laid("p26;.o..m.;......;f1");
        fewestIs(x, 0, 1, 1, 1);
        PlatePeas y = Due.laid("p26;o...m.;......;f1");
        for (int q = -1; q < 4; q++) {
            DUE.is("it takes four: " + q, y.fewest(0, q), -9);
        }
        PlatePeas z = Due.laid("p56;o....o;......;..oo..;......;o.....;s4;k2");
        DUE.is("no mash", z.fewest(2, -1), -9);
        DUE.is("no mash, code 0", z.fewest(2, 0), -9);
        z.law(1);
        DUE.is("no mash, law 1", z.fewest(2, -1), -9);
    }

    private static void most() {
        PlatePeas x = Due.laid("p33;oom;.o.;o.o;f1");
        DUE.is("most 0", x.most(0), 0);
        DUE.is("most 1", x.most(1), 1);
        DUE.is("most 2", x.most(2), 2);
        x.law(2);
        DUE.is("most 3 by law 2", x.most(3), 3);
        x.push(0, 0, 0);
        x.push(0, 1, 0);
        DUE.is("those had already, too: 0", x.most(0), 2);
        DUE.is("those had already, too: 3", x.most(3), 4);
        x.push(0, 2, 0);
        x.push(0, 2, 0);
        x.push(0, 3, 3);
        DUE.is("four are had", x.most(0), 4);
        DUE.is("one is left for three", x.most(3), 5);
        x.push(0, 4, 1);
        DUE.is("none is left", x.most(3), 5);
        DUE.is("OUTSIDE", x.most(4), -2);
        DUE.is("OUTSIDE below", x.most(-1), -2);
        PlatePeas y = Due.laid("p24;o.m.;....;f1");
        DUE.is("it takes two: 1", y.most(1), 0);
        DUE.is("it takes two: 2", y.most(2), 1);
        DUE.is("nothing is changed", y.many(4), 0);
    }

    private static void walls() {
        PlatePeas x = Due.laid("p35;oog..;.o...;mo..o;f1;s2");
        DUE.is("up at the rim", x.wall(0, 0, 0), -9);
        DUE.is("gravy behind the line", x.wall(0, 0, 1), -9);
        DUE.is("next", x.wall(0, 0, 2), 5);
        DUE.is("behind no line, to the rim", x.wall(0, 1, 2), -9);
        DUE.is("line to the rim", x.wall(0, 2, 0), -9);
        DUE.is("right", x.wall(1, 2, 1), 7);
        DUE.is("left", x.wall(1, 2, 3), 5);
        DUE.is("it does so now", x.wall(0, 3, 3), -9);
        DUE.is("up of a corner", x.wall(0, 4, 0), 9);
        x.law(2);
        DUE.is("held at the rim now", x.wall(0, 0, 0), -9);
        DUE.is("nothing is changed", x.sign(5), 0);
        DUE.is("UNKNOWN eater", x.wall(2, 0, 4), -1);
        DUE.is("UNKNOWN pea", x.wall(0, 5, 4), -1);
        DUE.is("OUTSIDE", x.wall(0, 0, 4), -2);
        DUE.is("OUTSIDE below", x.wall(0, 0, -1), -2);
        x.push(0, 0, 0);
        DUE.is("STATE", x.wall(0, 0, 0), -3);
        DUE.is("OUTSIDE before STATE", x.wall(0, 0, 4), -2);
        DUE.is("behind one that is gone", x.wall(0, 1, 3), 0);
    }

    private static void wallsBehindPushes() {
        PlatePeas x = Due.laid("p26;o.....;......;f2");
        x.push(0, 0, 1);
        DUE.is("where it is now", x.wall(0, 0, 1), 3);
        DUE.is("from where it came", x.wall(0, 0, 3), 1);
    }

    private static void rows() {
        PlatePeas x = Due.laid("p33;oom;.o.;o.o;f1;k1");
        Due.write(x, 0, 2, 11, 1, 111, 1, 30, 0);
        DUE.is("one", x.row(0, 2, 0, 1), 1);
        DUE.is("two", x.row(0, 2, 0, 2), 1);
        DUE.is("a pea that is gone", x.row(0, 2, 0, 3), -102);
        DUE.is("from 3 on", x.row(0, 2, 3, 1), 1);
        DUE.is("code 0", x.row(0, 2, 5, 1), 0);
        DUE.is("none", x.row(0, 2, 3, 0), 0);
        DUE.is("nothing is changed", x.many(4), 0);
        DUE.is("nothing is changed", x.peas(0), 0);
        x.push(0, 1, 1);
        DUE.is("had in all", x.row(0, 2, 3, 0), 1);
        DUE.is("the first of them", x.row(0, 2, 0, 3), -100);
        x.sheet(1, 0, 21);
        for (int i = 0; i < 21; i++) {
            x.put(1, i, 41);
        }
        DUE.is("20", x.row(1, 0, 0, 20), 1);
        DUE.is("21", x.row(1, 0, 0, 21), -2);
        DUE.is("fault of OUTSIDE", x.fault(), 0);
    }

    private static void refusedRows() {
        PlatePeas x = Due.laid("p22;om;o.;f1");
        DUE.is("UNKNOWN", x.row(4, 3, -1, -1), -1);
        DUE.is("OUTSIDE", x.row(0, 3, -1, -1), -2);
        DUE.is("NULL", x.row(0, 0, -1, -1), -11);
        DUE.is("fault NULL", x.fault(), 1);
        Due.write(x, 0, 1, 1, 1, 100, 20, 4, -1, 9, 1000, 10);
        DUE.is("CAST", x.row(0, 0, -1, -1), -12);
        DUE.is("fault CAST", x.fault(), 2);
        DUE.is("SIZE", x.row(0, 1, -1, -1), -14);
        DUE.is("fault SIZE", x.fault(), 4);
        DUE.is("INDEX below", x.row(0, 1, -1, 0), -13);
        DUE.is("INDEX beyond", x.row(0, 1, 10, 0), -13);
        DUE.is("INDEX before OUTSIDE", x.row(0, 1, 0, 21), -13);
        DUE.is("fault INDEX", x.fault(), 3);
        for (int i = 2; i < 8; i++) {
            DUE.is("no code: " + x.cell(0, i, 1), x.row(0, 1, i, 1), -1);
        }
        DUE.is("no code before a pea that is gone", x.row(0, 1, 0, 3), -1);
        DUE.is("a pea that is gone", x.row(0, 1, 0, 2), -101);
        DUE.is("fault of none", x.fault(), 0);
        x.push(0, 0, 1);
        DUE.is("the end", x.row(0, 1, 9, 0), 1);
    }
}
