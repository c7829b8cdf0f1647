import java.math.BigInteger;

/** Part 5, of telling, and promises 27 to 30. */
final class PartsEdges {
    private static final int[] BELOW_AND_FAR = {Integer.MIN_VALUE, -9, -1, 1000, Integer.MAX_VALUE};

    private final Sentences s;

    PartsEdges(Sentences s) {
        this.s = s;
    }

    void all() {
        traces();
        forks();
        knives();
        spoons();
        polished();
        polishedSpoons();
        promise27();
        promise28();
        promise29();
        promise30();
    }

    private static PlatePeas of(String eaters) {
        return Due.laid("p22;..;..;" + eaters);
    }

    /** What a trace of 0 becomes by bodies, told without any wrap and cut to an int at the end. */
    private static int left(int... bodies) {
        BigInteger trace = BigInteger.ZERO;
        for (int body : bodies) {
            trace = trace.multiply(BigInteger.valueOf(31)).add(BigInteger.valueOf(body));
        }
        return trace.intValue();
    }

    // ---- part 5

    private void traces() {
        s.part(5, "TELLING of EATERS by bodies that leave their number in TRACE (an int that wraps, 0 at first, becomes 31"
            + " times it and the number) as they begin");
        PlatePeas x = of("f1");
        s.due(x, 0, "trace");
        int[] ones = {1, 32, 993, 30784, 954305, 29583456, 917087137};
        for (int one : ones) {
            x.tell(0);
            s.due(x, one, "trace");
        }
        // 31 times 917,087,137 and 1 is 28,429,701,248: beyond an int, and beyond it again.
        x.tell(0);
        s.due(x, (int) 28429701248L, "trace");
        x.tell(0);
        s.due(x, left(1, 1, 1, 1, 1, 1, 1, 1, 1), "trace");
    }

    private void forks() {
        s.part(5, "FORK (1): STRENGTH.");
        for (int strength = 1; strength <= 4; strength++) {
            PlatePeas x = of("f" + strength);
            s.due(x, strength, "tell", 0);
            s.due(x, 1, "trace");
        }
    }

    private void knives() {
        s.part(5, "KNIFE (2): what FORK's gives, and 100.");
        for (int strength = 1; strength <= 4; strength++) {
            PlatePeas x = of("k" + strength);
            s.due(x, 100 + strength, "tell", 0);
            s.due(x, left(2, 1), "trace");
        }
    }

    private void spoons() {
        s.part(5, "SPOON (3): what KNIFE's gives, and what FORK's gives (KNIFE's left out).");
        for (int strength = 1; strength <= 4; strength++) {
            PlatePeas x = of("s" + strength);
            s.due(x, 100 + 2 * strength, "tell", 0);
            s.due(x, left(3, 2, 1, 1), "trace");
            s.due(x, 100 + 2 * strength, "tell", 0);
            s.due(x, left(3, 2, 1, 1, 3, 2, 1, 1), "trace");
        }
    }

    private void polished() {
        s.part(5, "POLISHED by a lent body (4): its number");
        for (String eaters : new String[] {"f4;k3", "k2;f1", "f2;f2", "k4;k4"}) {
            PlatePeas x = of(eaters);
            s.due(x, 0, "polish", 0);
            s.due(x, left(4), "trace");
            s.due(x, 1, "polish", 1);
            s.due(x, left(4, 4), "trace");
        }
    }

    private void polishedSpoons() {
        s.part(5, "SPOONS have their own (5): 30.");
        PlatePeas x = of("s1;s4");
        s.due(x, 30, "polish", 0);
        s.due(x, left(5), "trace");
        s.due(x, 30, "polish", 1);
        s.due(x, left(5, 5), "trace");
    }

    // ---- promises

    private void promise27() {
        s.promise(27, "TELLING of an EATER.");
        PlatePeas x = of("k4;s1");
        s.due(x, 102, "tell", 1);
        s.due(x, 104, "tell", 0);
        s.due(x, left(3, 2, 1, 1, 2, 1), "trace");
        s.promise(27, "UNKNOWN.");
        s.refused(States::rich, -1, "tell", 2);
        s.refused(States::pushed30, -1, "tell", 1);
        s.refused(States::bare, -1, "tell", 0);
        for (int e : BELOW_AND_FAR) {
            s.refused(States::rich, -1, "tell", e);
        }
    }

    private void promise28() {
        s.promise(28, "How it is POLISHED.");
        PlatePeas x = of("s4;k1");
        s.due(x, 1, "polish", 1);
        s.due(x, 30, "polish", 0);
        s.due(x, left(4, 5), "trace");
        s.promise(28, "UNKNOWN.");
        s.refused(States::rich, -1, "polish", 2);
        s.refused(States::pushed30, -1, "polish", 1);
        s.refused(States::bare, -1, "polish", 0);
        for (int e : BELOW_AND_FAR) {
            s.refused(States::rich, -1, "polish", e);
        }
    }

    private void promise29() {
        s.promise(29, "An EATER, taken as one of a kind: 1.");
        s.asks(States::rich, 1, "as", 0, 0);
        for (int kind = 0; kind < 3; kind++) {
            s.asks(States::rich, 1, "as", 1, kind);
        }
        s.promise(29, "UNKNOWN");
        s.refused(States::rich, -1, "as", 2, 0);
        s.refused(States::bare, -1, "as", 0, 0);
        for (int e : BELOW_AND_FAR) {
            s.refused(States::rich, -1, "as", e, 0);
        }
        s.promise(29, "OUTSIDE");
        s.refused(States::rich, -2, "as", 0, 3);
        for (int kind : BELOW_AND_FAR) {
            s.refused(States::rich, -2, "as", 1, kind);
        }
        s.promise(29, "CAST: it is none.");
        s.fails(States::rich, 2, "as", 0, 1);
        s.fails(States::rich, 2, "as", 0, 2);
        PlatePeas knife = of("k1");
        s.due(knife, 1, "as", 0, 1);
        s.due(knife, -12, "as", 0, 2);
        s.due(knife, 2, "fault");
    }

    private void promise30() {
        s.promise(30, "TRACE.");
        s.due(new PlatePeas(), 0, "trace");
        s.asks(States::rich, left(3, 2, 1, 1), "trace");
        // Other calls, and a new plate, leave it as it is.
        PlatePeas x = States.rich();
        x.as(1, 0);
        x.push(0, 0, 1);
        x.ofEater(1, 2);
        Due.lay(x, "p22;..;..;f1");
        s.due(x, left(3, 2, 1, 1), "trace");
    }
}
