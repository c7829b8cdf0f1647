import java.util.ArrayList;
import java.util.List;

/** Objects in states that refusals are tried in, each with INDEX as its fault, and all that an object can tell. */
final class States {
    static final int FAULT = 3;

    private States() {
    }

    /** No plate; sheet 1 has two ints. */
    static PlatePeas bare() {
        PlatePeas x = new PlatePeas();
        return faulty(x);
    }

    /**
     * 3 high, 4 wide, peas 0 (on square 0), 1 (had), 2 (off) by law 1, eaters 0 and 1; 3 pushes, 2 readings.
     * Sheet 0: 3 bytes, 1: 2 ints, 2: nothing, 3: the text, 24 bytes.
     */
    static PlatePeas rich() {
        PlatePeas x = Due.laid("p34;oo.m;.go.;....;f2;s1");
        x.law(1);
        x.push(0, 1, 1);
        x.push(0, 1, 1);
        x.push(0, 2, 1);
        x.reading(1, -9);
        x.reading(0, 0);
        Due.write(x, 0, 0, 5, -6, 7);
        x.tell(1);
        return faulty(x);
    }

    /** A plate with a pea that stays on square 0, and 30 pushes. */
    static PlatePeas pushed30() {
        PlatePeas x = Due.laid("p22;om;..;f1");
        for (int k = 0; k < 30; k++) {
            x.push(0, 0, 0);
        }
        return faulty(x);
    }

    /** A plate with a pea, and 8 readings. */
    static PlatePeas seen8() {
        PlatePeas x = Due.laid("p22;o.;..;f1");
        for (int k = 0; k < 8; k++) {
            x.reading(0, 0);
        }
        return faulty(x);
    }

    private static PlatePeas faulty(PlatePeas x) {
        Due.write(x, 1, 2, 1, 70001);
        x.put(1, 2, 0);
        return x;
    }

    /** All that can be told of an object; its pushes and readings are taken back one by one, so it is of no more use. */
    static String told(PlatePeas x) {
        List<Long> all = new ArrayList<>();
        for (int what = 0; what < 7; what++) {
            all.add((long) x.many(what));
        }
        all.add((long) x.trace());
        for (int c = 0; c < x.many(0); c++) {
            all.add((long) x.sign(c));
        }
        for (int e = 0; e < x.many(3); e++) {
            all.add((long) x.ofEater(e, 0));
            all.add((long) x.ofEater(e, 1));
        }
        tellCells(x, all);
        tellReadings(x, all);
        tellPushes(x, all);
        return all.toString();
    }

    private static void tellCells(PlatePeas x, List<Long> all) {
        for (int k = 0; k < 4; k++) {
            for (int lane = 0; lane < 3; lane++) {
                x.cell(k, -1, lane);
                boolean has = x.fault() == 3;
                all.add((long) x.fault());
                for (int i = 0; has; i++) {
                    long cell = x.cell(k, i, lane);
                    all.add(cell);
                    has = cell != PlatePeas.LOST;
                }
            }
        }
    }

    private static void tellReadings(PlatePeas x, List<Long> all) {
        for (int k = x.many(5); k > 0; k--) {
            all.add((long) x.last(-1));
            all.add((long) x.laws());
            all.add((long) x.never());
            all.add((long) x.back(1));
        }
    }

    private static void tellPushes(PlatePeas x, List<Long> all) {
        for (int k = x.many(4); k >= 0; k--) {
            for (int pea = 0; pea < x.many(2); pea++) {
                all.add((long) x.where(pea));
            }
            all.add((long) x.peas(0));
            all.add((long) x.peas(1));
            all.add((long) x.undo(k > 0 ? 1 : 0));
        }
    }
}
