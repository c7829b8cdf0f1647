/** Promises 16 to 21: odds, reading, back, last, laws, never. */
public final class SeenTest {
    private static final Due DUE = new Due("SeenTest");

    public static void main(String[] args) {
        odds();
        readings();
        last();
        lastWhereThereAre30();
        laws();
        never();
        DUE.end();
    }

    private static void oddsAre(PlatePeas x, int pea, int upper, int lower) {
        DUE.is("upper of " + pea, x.odds(0, pea, 0), upper);
        DUE.is("lower of " + pea, x.odds(0, pea, 1), lower);
    }

    private static void odds() {
        PlatePeas x = Due.laid("p33;...;.o.;...;f1");
        oddsAre(x, 0, 0, 1);
        x.set(1, 2);
        oddsAre(x, 0, 1, 4);
        x.set(3, 2);
        oddsAre(x, 0, 1, 2);
        x.set(5, 2);
        oddsAre(x, 0, 3, 4);
        x.set(7, 2);
        oddsAre(x, 0, 1, 1);
        DUE.is("UNKNOWN eater", x.odds(1, 0, 0), Long.MIN_VALUE);
        DUE.is("UNKNOWN pea", x.odds(0, 1, 0), Long.MIN_VALUE);
        DUE.is("OUTSIDE", x.odds(0, 0, 2), Long.MIN_VALUE);
        DUE.is("OUTSIDE below", x.odds(0, 0, -1), Long.MIN_VALUE);
        x.as(0, 1);
        x.push(0, 0, 0);
        DUE.is("STATE", x.odds(0, 0, 0), Long.MIN_VALUE);
        DUE.is("odds name no fault", x.fault(), 2);
        PlatePeas y = Due.laid("p22;o.;..;f1");
        y.law(2);
        oddsAre(y, 0, 1, 2);
    }

    private static void readings() {
        PlatePeas x = Due.laid("p22;o.;..;f1");
        DUE.is("UNKNOWN pea", x.reading(1, 0), -1);
        DUE.is("UNKNOWN pea below", x.reading(-1, 0), -1);
        DUE.is("UNKNOWN square", x.reading(0, 4), -1);
        DUE.is("UNKNOWN square below", x.reading(0, -1), -1);
        DUE.is("UNKNOWN, next to NONE", x.reading(0, -8), -1);
        for (int k = 0; k < 8; k++) {
            DUE.is("reading " + k, x.reading(0, k % 2 == 0 ? -9 : 3), k);
        }
        DUE.is("FULL", x.reading(0, 0), -4);
        DUE.is("UNKNOWN before FULL", x.reading(0, 4), -1);
        DUE.is("back(9)", x.back(9), -2);
        DUE.is("back(-1)", x.back(-1), -2);
        DUE.is("back(0)", x.back(0), 8);
        DUE.is("back(3)", x.back(3), 5);
        DUE.is("many", x.many(5), 5);
        DUE.is("reading", x.reading(0, 0), 5);
        DUE.is("back(6)", x.back(6), 0);
        DUE.is("back(1)", x.back(1), -2);
    }

    private static void lastIs(PlatePeas x, int... codes) {
        DUE.is("how many", x.last(-1), codes.length);
        for (int k = 0; k < codes.length + 2; k++) {
            DUE.is("last " + k, x.last(k), k < codes.length ? codes[k] : -9);
        }
    }

    private static void last() {
        PlatePeas x = Due.laid("p23;oom;...;f1;f2");
        lastIs(x, 0, 1, 2, 3, 10, 11, 12, 13, 100, 101, 102, 103, 110, 111, 112, 113);
        x.reading(1, -9);
        lastIs(x, 11, 111);
        x.back(1);
        x.reading(0, 0);
        x.reading(1, 4);
        // Force 1 goes down to 4, force 2 turns at the rim there; up, force 2 turns and goes down.
        lastIs(x, 12, 110, 112);
        x.push(0, 1, 2);
        // Pea 1 is on 4 now: force 1 is gone by turning at the rim.
        lastIs(x, 0, 3, 12);
        x.reading(0, 1);
        lastIs(x);
        DUE.is("UNKNOWN", x.last(-2), -1);
        DUE.is("nothing is changed", x.many(4), 1);
    }

    private static void lastWhereThereAre30() {
        PlatePeas x = Due.laid("p22;om;..;f1");
        for (int k = 0; k < 30; k++) {
            x.push(0, 0, 0);
        }
        DUE.is("all turned", x.where(0), 0);
        x.reading(0, -9);
        lastIs(x, 1);
        x.undo(1);
        x.push(0, 0, 1);
        lastIs(x, 0, 1, 2, 3);
    }

    private static void laws() {
        PlatePeas x = Due.laid("p23;o..;...;f3");
        x.push(0, 0, 1);
        DUE.is("no readings", x.laws(), 7);
        x.reading(0, 2);
        // By law 0 it turns with the last of its force.
        DUE.is("on 2", x.laws(), 0b101);
        x.back(1);
        x.reading(0, -9);
        DUE.is("nowhere", x.laws(), 0b010);
        x.reading(0, 2);
        DUE.is("unlike readings", x.laws(), 0);
        x.back(2);
        x.push(0, 0, 1);
        x.reading(0, -9);
        DUE.is("off, or had", x.laws(), 0b110);
        DUE.is("the law stays", x.many(6), 0);
        DUE.is("the pea stays", x.where(0), 0);
    }

    private static void never() {
        PlatePeas x = Due.laid("p23;o..;...;f1");
        DUE.is("no pushes", x.never(), 0);
        x.push(0, 0, 1);
        x.push(0, 0, 1);
        x.push(0, 0, 0);
        DUE.is("no readings", x.never(), 0b111);
        x.reading(0, 2);
        DUE.is("without the last", x.never(), 0b100);
        x.back(1);
        x.reading(0, 1);
        DUE.is("without one of the first", x.never(), 0b011);
        x.law(1);
        DUE.is("by the law now", x.never(), 0);
        x.back(1);
        x.reading(0, -9);
        DUE.is("off by the last", x.never(), 0b011);
        DUE.is("nothing is changed", x.many(4), 3);
    }
}
