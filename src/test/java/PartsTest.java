/** Promises 27 to 31: tell, polish, as, trace, fault. */
public final class PartsTest {
    private static final Due DUE = new Due("PartsTest");

    public static void main(String[] args) {
        telling();
        polishing();
        kinds();
        traceStays();
        DUE.end();
    }

    private static int leave(int trace, int... bodies) {
        int value = trace;
        for (int body : bodies) {
            value = 31 * value + body;
        }
        return value;
    }

    private static void telling() {
        PlatePeas x = Due.laid("p22;..;..;f4;k3");
        DUE.is("fork", x.tell(0), 4);
        DUE.is("trace", x.trace(), 1);
        DUE.is("knife", x.tell(1), 103);
        DUE.is("trace", x.trace(), leave(1, 2, 1));
        DUE.is("UNKNOWN", x.tell(2), -1);
        DUE.is("UNKNOWN below", x.tell(-1), -1);
        DUE.is("trace stays", x.trace(), leave(1, 2, 1));
        PlatePeas y = Due.laid("p22;..;..;s4");
        DUE.is("spoon", y.tell(0), 108);
        DUE.is("trace", y.trace(), leave(0, 3, 2, 1, 1));
        int trace = y.trace();
        for (int k = 0; k < 20; k++) {
            y.tell(0);
            trace = leave(trace, 3, 2, 1, 1);
        }
        DUE.is("trace wraps", y.trace(), trace);
    }

    private static void polishing() {
        PlatePeas x = Due.laid("p22;..;..;k4;f3");
        DUE.is("its number: 0", x.polish(0), 0);
        DUE.is("trace", x.trace(), 4);
        DUE.is("its number: 1", x.polish(1), 1);
        DUE.is("trace", x.trace(), leave(4, 4));
        DUE.is("UNKNOWN", x.polish(2), -1);
        DUE.is("UNKNOWN below", x.polish(-1), -1);
        DUE.is("trace stays", x.trace(), leave(4, 4));
        PlatePeas y = Due.laid("p22;..;..;f4;s2");
        DUE.is("spoon's own", y.polish(1), 30);
        DUE.is("trace", y.trace(), 5);
    }

    private static void kinds() {
        String letters = "fks";
        for (int is = 0; is < 3; is++) {
            PlatePeas x = Due.laid("p22;..;..;" + letters.charAt(is) + "1");
            for (int kind = 0; kind < 3; kind++) {
                boolean so = kind <= is;
                DUE.is(is + " as " + kind, x.as(0, kind), so ? 1 : -12);
                DUE.is("fault", x.fault(), so ? 0 : 2);
            }
            DUE.is("OUTSIDE", x.as(0, 3), -2);
            DUE.is("OUTSIDE below", x.as(0, -1), -2);
            DUE.is("UNKNOWN", x.as(1, 3), -1);
            DUE.is("UNKNOWN below", x.as(-1, 0), -1);
            DUE.is("fault", x.fault(), 0);
            DUE.is("trace", x.trace(), 0);
        }
    }

    private static void traceStays() {
        PlatePeas x = Due.laid("p22;..;..;f4");
        x.tell(0);
        Due.lay(x, "p22;..;..;k1");
        DUE.is("trace behind a new plate", x.trace(), 1);
        x.tell(0);
        DUE.is("trace", x.trace(), leave(1, 2, 1));
    }
}
