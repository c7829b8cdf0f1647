/** Part 2 and promises 7 to 11. */
final class PushEdges {
    private static final int[] BELOW_AND_FAR = {Integer.MIN_VALUE, -9, -1, 1000, Integer.MAX_VALUE};

    private final Sentences s;

    PushEdges(Sentences s) {
        this.s = s;
    }

    void all() {
        onThePlate();
        heldByMash();
        heldAtTheRim();
        heldByPeas();
        had();
        forceOfEaters();
        forceLeft();
        turns();
        off();
        stopsAtTheRim();
        stopsBeforeMash();
        strikes();
        strikesFromWhereItIs();
        goes();
        gravy();
        countOfPushes();
        oneBehindAnother();
        nothingComes();
        promise7();
        promise7Full();
        promise8();
        promise9();
        promise10();
        promise11();
        promise11Refusals();
    }

    private static PlatePeas pushed(String text, int law, int... codes) {
        PlatePeas x = Due.laid(text);
        x.law(law);
        for (int code : codes) {
            x.push(code / 100, code / 10 % 10, code % 10);
        }
        return x;
    }

    private void spots(PlatePeas x, int... spots) {
        for (int pea = 0; pea < spots.length; pea++) {
            s.due(x, spots[pea], "where", pea);
        }
    }

    private void held(PlatePeas x, int up, int right, int down, int left) {
        s.due(x, up, "peas", 2);
        s.due(x, right, "peas", 3);
        s.due(x, down, "peas", 4);
        s.due(x, left, "peas", 5);
    }

    // ---- part 2

    private void onThePlate() {
        s.part(2, "A PUSH: an EATER pushes a PEA that is on the PLATE in a DIRECTION.");
        for (int law = 0; law < 3; law++) {
            int[] next = {1, 5, 7, 3};
            for (int d = 0; d < 4; d++) {
                spots(pushed("p33;...;.o.;...;f1", law, d), next[d]);
            }
        }
    }

    private void heldByMash() {
        s.part(2, "HELD in a DIRECTION is a PEA, if the next SQUARE is MASH");
        held(Due.laid("p33;.m.;mom;.m.;f1"), 1, 1, 1, 1);
        held(Due.laid("p33;.m.;go.;.m.;f1"), 1, 0, 1, 0);
        held(Due.laid("p33;m.m;.o.;m.m;f1"), 0, 0, 0, 0);
        held(Due.laid("p55;..m..;.....;m.o.m;.....;..m..;f1"), 0, 0, 0, 0);
        // The square with the next number is in another row.
        held(Due.laid("p23;..o;m..;f1"), 0, 0, 0, 0);
        held(Due.laid("p23;..m;o..;f1"), 0, 0, 0, 0);
    }

    private void heldAtTheRim() {
        s.part(2, "or it is at the RIM and the LAW is 2");
        String corners = "p33;o.o;...;o.o;f1";
        held(pushed(corners, 0), 0, 0, 0, 0);
        held(pushed(corners, 1), 0, 0, 0, 0);
        held(pushed(corners, 2), 0b0011, 0b1010, 0b1100, 0b0101);
        held(pushed("p33;...;.o.;...;f1", 2), 0, 0, 0, 0);
    }

    private void heldByPeas() {
        s.part(2, "or on the next SQUARE is a PEA that is HELD in it, too.");
        held(Due.laid("p26;ooooom;......;f1"), 0, 0b11111, 0, 0);
        held(Due.laid("p26;oo.oom;......;f1"), 0, 0b1100, 0, 0);
        held(Due.laid("p26;mooooo;......;f1"), 0, 0, 0, 0b11111);
        held(Due.laid("p52;o.;o.;o.;o.;m.;f1"), 0, 0, 0b1111, 0);
        held(pushed("p25;ooooo;.....;f1", 2), 0b11111, 0b11111, 0, 0b11111);
        held(pushed("p22;oo;oo;f1", 2), 0b1111, 0b1111, 0b1111, 0b1111);
        held(pushed("p22;oo;oo;f1", 1), 0, 0, 0, 0);
        // Held in another direction than that of the push.
        held(Due.laid("p33;.m.;oo.;...;f1"), 0b10, 0, 0, 0);
    }

    private void had() {
        s.part(2, "One that is HELD is HAD (it is gone).");
        PlatePeas x = pushed("p26;oom...;......;f4", 0, 1);
        spots(x, -9, 1);
        s.due(x, 0b01, "peas", 0);
        s.due(x, 0, "peas", 1);
        // Its square is free: the other one goes there, turns, comes back and stops before the mash.
        x.push(0, 1, 3);
        spots(x, -9, 1);
        s.due(pushed("p26;oom...;......;f4", 0, 1, 11), 0b11, "peas", 0);
        spots(pushed("p26;o.....;......;s4", 2, 0), -9);
        spots(pushed("p26;ooooom;......;s4", 0, 1), -9, 1, 2, 3, 4);
        s.due(pushed("p26;oom...;......;f4", 0, 1), 0b10, "peas", 3);
    }

    private void forceOfEaters() {
        s.part(2, "Else it ROLLS with the EATER's FORCE.");
        spots(pushed("p26;o.....;......;f1;k1", 0, 1), 1);
        spots(pushed("p26;o.....;......;f1;k1", 0, 101), 2);
        spots(pushed("p26;o.....;......;s1;f3", 0, 1), 4);
        spots(pushed("p26;o.....;......;s1;f3", 0, 101), 3);
        spots(pushed("p26;o.....;......;k4;f3", 0, 1), 5);
    }

    private void forceLeft() {
        s.part(2, "ROLLS with a FORCE in a DIRECTION: as long as there is FORCE left, by the next SQUARE");
        for (int force = 1; force <= 4; force++) {
            spots(pushed("p26;o.....;......;f" + force, 1, 1), force);
        }
        // At the rim with no force left it is not off; with 1 left it is.
        spots(pushed("p26;o.....;......;k4", 1, 1), 5);
        spots(pushed("p26;o.....;......;s2", 1, 1), -9);
        // Before a pea with no force left, and with 1, and with 2.
        spots(pushed("p26;o..o..;......;f2", 0, 1), 2, 3);
        spots(pushed("p26;o..o..;......;f3", 0, 1), 2, 3);
        spots(pushed("p26;o..o..;......;f4", 0, 1), 2, 4);
    }

    private void turns() {
        s.part(2, "at the RIM by LAW 0 it turns round (which takes 1 of its FORCE)");
        spots(pushed("p26;.....o;......;f1", 0, 1), 5);
        spots(pushed("p26;.....o;......;f2", 0, 1), 4);
        spots(pushed("p26;....o.;......;f2", 0, 1), 5);
        spots(pushed("p26;....o.;......;f3", 0, 1), 4);
        spots(pushed("p26;o.....;......;f3", 0, 3), 2);
        spots(pushed("p52;o.;..;..;..;..;f4", 0, 0), 6);
        spots(pushed("p52;..;..;..;..;o.;f4", 0, 2), 2);
        // From rim to rim: 5 turns and 5 squares of a force of 10.
        spots(pushed("p22;o.;..;s4", 0, 1), 1);
        spots(pushed("p22;o.;..;s4", 0, 3), 1);
        spots(pushed("p22;o.;..;s3", 0, 1), 0);
    }

    private void off() {
        s.part(2, "by LAW 1 it is OFF (it is gone)");
        // Pea 0 is above, 1 to the left, 2 to the right, 3 below.
        int[] outwards = {0, 2, 3, 1};
        for (int d = 0; d < 4; d++) {
            int pea = outwards[d];
            PlatePeas x = pushed("p33;.o.;o.o;.o.;f1", 1, 10 * pea + d);
            s.due(x, -9, "where", pea);
            s.due(x, 1 << pea, "peas", 1);
            s.due(x, 0, "peas", 0);
        }
        // One that is struck falls off, the one that struck it stays; its square is free then.
        PlatePeas x = pushed("p26;....oo;......;f2", 1, 1);
        spots(x, 4, -9);
        s.due(x, 0b10, "peas", 1);
        x.push(0, 0, 1);
        spots(x, -9, -9);
        s.due(x, 0b11, "peas", 1);
    }

    private void stopsAtTheRim() {
        s.part(2, "by LAW 2 it stops");
        PlatePeas x = pushed("p26;....o.;......;s4", 2, 1);
        spots(x, 5);
        s.due(x, 0, "peas", 0);
        s.due(x, 0, "peas", 1);
        // One that is struck at the rim stays there; neither is had, as the first one was not held.
        spots(pushed("p26;o...o.;......;s4", 2, 1), 3, 5);
        spots(pushed("p26;o....o;......;s4", 2, 1), 4, 5);
    }

    private void stopsBeforeMash() {
        s.part(2, "before MASH it stops");
        for (int law = 0; law < 3; law++) {
            PlatePeas x = pushed("p26;o..m..;......;s4", law, 1);
            spots(x, 2);
            s.due(x, 0, "peas", 0);
        }
        spots(pushed("p26;o..m..;......;f2", 0, 1), 2);
        // Turned round at the rim.
        spots(pushed("p26;m.o...;......;s4", 0, 1), 1);
    }

    private void strikes() {
        s.part(2, "before a PEA it stops, and that one ROLLS on with 1 less of FORCE than it had left");
        spots(pushed("p26;oo....;......;f2", 0, 1), 0, 2);
        spots(pushed("p26;oo....;......;f4", 0, 1), 0, 4);
        spots(pushed("p26;o.o...;......;f3", 0, 1), 1, 3);
        spots(pushed("p26;o.o...;......;f4", 0, 1), 1, 4);
        spots(pushed("p26;ooo...;......;f3", 0, 1), 0, 1, 3);
        spots(pushed("p26;o.o.o.;......;f4", 0, 1), 1, 3, 4);
        spots(pushed("p26;o.o.o.;......;k4", 0, 1), 1, 3, 5);
        // The one that is struck can't give way: it stays and is not had.
        PlatePeas x = pushed("p26;o.om..;......;f4", 0, 1);
        spots(x, 1, 2);
        s.due(x, 0, "peas", 0);
        // It stops where it is, though the other one goes away.
        spots(pushed("p26;o.o...;......;k4", 0, 1), 1, 5);
    }

    private void strikesFromWhereItIs() {
        s.part(2, "(from where it is; nothing, if that is 0)");
        spots(pushed("p26;oo....;......;f1", 0, 1), 0, 1);
        spots(pushed("p26;o.o...;......;f2", 0, 1), 1, 2);
        // At the rim by law 1, with nothing, then with 1 of force.
        spots(pushed("p26;....oo;......;f1", 1, 1), 4, 5);
        spots(pushed("p26;....oo;......;f2", 1, 1), 4, -9);
        // To strike takes 1, to turn 1, to strike back 1: of 3 nothing is left, of 4 the first one goes by 1.
        spots(pushed("p26;....oo;......;f3", 0, 1), 4, 5);
        spots(pushed("p26;....oo;......;f4", 0, 1), 3, 5);
        // 1 goes to 5, turns, goes to 1 and strikes with 4 left; 0 turns and strikes 1, which has 1 left.
        spots(pushed("p26;o...o.;......;s4", 0, 11), 0, 2);
    }

    private void goes() {
        s.part(2, "else it goes there (which takes 1)");
        spots(pushed("p26;o.....;......;f1", 0, 2), 6);
        spots(pushed("p26;o.....;.o....;f1", 0, 2, 13), 6, 7);
        spots(pushed("p52;o.;..;..;..;..;f4", 0, 2), 8);
    }

    private void gravy() {
        s.part(2, "on GRAVY it stops.");
        for (int law = 0; law < 3; law++) {
            spots(pushed("p26;o.g...;......;s4", law, 1), 2);
            spots(pushed("p26;o....g;......;s4", law, 1), 5);
        }
        spots(pushed("p26;o.g...;......;f1", 0, 1), 1);
        spots(pushed("p26;o.g...;......;f2", 0, 1), 2);
        // One that lies on it rolls on if it is pushed, or struck.
        spots(pushed("p26;o.g...;......;f2", 0, 1, 1), 4);
        spots(pushed("p26;o.og..;......;f4", 0, 11, 1), 2, 4);
        spots(pushed("p26;o.gg..;......;f4", 0, 1, 1), 3);
        // One that is struck stops on it, too.
        spots(pushed("p26;oo.g..;......;s4", 0, 1), 0, 3);
        // On gravy before mash it is held, and had by the next push.
        spots(pushed("p26;o.gm..;......;f4", 0, 1), 2);
        spots(pushed("p26;o.gm..;......;f4", 0, 1, 1), -9);
    }

    private void countOfPushes() {
        s.part(2, "PUSHES, 30 at most, numbered by how many there are");
        PlatePeas x = Due.laid("p22;om;.o;f1;f1");
        for (int k = 0; k < 30; k++) {
            s.due(x, k, "push", k % 2, k / 2 % 2, k % 4);
            s.due(x, k + 1, "many", 4);
        }
        s.due(x, -4, "push", 0, 0, 0);
        s.due(x, 30, "many", 4);
        s.due(x, 29, "undo", 1);
        s.due(x, 29, "push", 0, 0, 0);
        s.due(x, -4, "push", 0, 0, 0);
    }

    private void oneBehindAnother() {
        s.part(2, "each is done behind those ahead of it, by the LAW now");
        spots(pushed("p26;o.....;......;f2", 0, 1, 2), 8);
        spots(pushed("p26;oo....;......;f2", 0, 11, 1), 2, 3);
        spots(pushed("p26;oo....;......;f2", 0, 1, 11), 0, 4);
        // To the rim and 1 more, then to the left.
        PlatePeas x = pushed("p26;...o..;......;f3", 0, 1, 3);
        spots(x, 2);
        x.law(1);
        spots(x, -9);
        s.due(x, 1, "peas", 1);
        x.law(2);
        spots(x, 2);
        x.push(0, 0, 0);
        spots(x, -9);
        s.due(x, 1, "peas", 0);
        // Up at the rim it turns, goes down by 1, and turns there.
        x.law(0);
        spots(x, 8);
        s.due(x, 0, "peas", 0);
    }

    private void nothingComes() {
        s.part(2, "if its PEA is no more on the PLATE, nothing comes of it.");
        for (int law = 0; law < 3; law++) {
            PlatePeas x = pushed("p26;omo...;......;f1", law, 1);
            spots(x, -9, 2);
            for (int d = 0; d < 4; d++) {
                s.due(x, d + 1, "push", 0, 0, d);
                spots(x, -9, 2);
                s.due(x, 1, "peas", 0);
                s.due(x, 0, "peas", 1);
            }
        }
        PlatePeas y = pushed("p26;o.m...;......;f2", 1, 0, 1, 1);
        spots(y, -9);
        s.due(y, 0, "peas", 0);
        s.due(y, 1, "peas", 1);
        // By law 0 it turned there, and went down; so the pushes behind come to something.
        y.law(0);
        spots(y, 10);
        y.set(8, 2);
        spots(y, -9);
        s.due(y, 1, "peas", 0);
    }

    // ---- promises

    private void promise7() {
        s.promise(7, "A PUSH: its number.");
        PlatePeas x = Due.laid("p22;o.;..;f1");
        s.due(x, 0, "push", 0, 0, 1);
        s.due(x, 1, "push", 0, 0, 2);
        s.due(x, 3, "where", 0);
        s.promise(7, "UNKNOWN: EATER, PEA");
        s.refused(States::rich, -1, "push", 2, 0, 0);
        s.refused(States::rich, -1, "push", 0, 3, 0);
        s.refused(States::pushed30, -1, "push", 1, 0, 0);
        s.refused(States::bare, -1, "push", 0, 0, 0);
        for (int number : BELOW_AND_FAR) {
            s.refused(States::rich, -1, "push", number, 0, 0);
            s.refused(States::rich, -1, "push", 0, number, 0);
        }
        PlatePeas none = Due.laid("p22;..;..;f1");
        s.due(none, -1, "push", 0, 0, 0);
        s.promise(7, "OUTSIDE: d");
        s.refused(States::rich, -2, "push", 0, 0, 4);
        for (int d : BELOW_AND_FAR) {
            s.refused(States::rich, -2, "push", 0, 0, d);
        }
    }

    private void promise7Full() {
        s.promise(7, "FULL.");
        for (int d = 0; d < 4; d++) {
            s.refused(States::pushed30, -4, "push", 0, 0, d);
        }
        PlatePeas x = States.pushed30();
        x.undo(30);
        s.due(x, 0, "push", 0, 0, 0);
    }

    private void promise8() {
        s.promise(8, "The last k PUSHES (0 .. as many as there are) are taken back: how many are left.");
        PlatePeas x = pushed("p26;o.....;......;f1", 0, 1, 1, 2, 1);
        s.due(x, 4, "undo", 0);
        spots(x, 9);
        s.due(x, 2, "undo", 2);
        spots(x, 2);
        s.due(x, 0, "undo", 2);
        spots(x, 0);
        s.due(x, 0, "undo", 0);
        PlatePeas y = States.pushed30();
        s.due(y, 0, "undo", 30);
        s.asks(States::bare, 0, "undo", 0);
        // One that was had, one that was off, come back.
        PlatePeas z = States.rich();
        s.due(z, 2, "undo", 1);
        spots(z, 0, -9, 6);
        s.due(z, 0, "peas", 1);
        s.due(z, 1, "undo", 1);
        spots(z, 0, 2, 6);
        s.due(z, 0, "peas", 0);
        s.due(z, 2, "many", 5);
        s.due(z, 1, "many", 6);
        s.promise(8, "OUTSIDE.");
        s.refused(States::rich, -2, "undo", 4);
        s.refused(States::bare, -2, "undo", 1);
        s.refused(States::pushed30, -2, "undo", 31);
        for (int k : BELOW_AND_FAR) {
            s.refused(States::rich, -2, "undo", k);
        }
    }

    private void promise9() {
        s.promise(9, "Where a PEA is behind all PUSHES");
        s.asks(States::rich, 0, "where", 0);
        s.asks(States::pushed30, 0, "where", 0);
        spots(pushed("p56;o.....;......;......;......;......;s4;k4", 0, 102, 1, 101), 29);
        s.promise(9, "NONE: it is HAD, or OFF.");
        s.asks(States::rich, -9, "where", 1);
        s.asks(States::rich, -9, "where", 2);
        s.promise(9, "UNKNOWN.");
        s.refused(States::rich, -1, "where", 3);
        s.refused(States::bare, -1, "where", 0);
        for (int pea : BELOW_AND_FAR) {
            s.refused(States::rich, -1, "where", pea);
        }
    }

    private void promise10() {
        s.promise(10, "PEAS that are HAD (what 0), OFF (1), HELD in a DIRECTION (2 and it), as a set.");
        int[] sets = {0b010, 0b100, 0, 0, 0, 0};
        for (int what = 0; what < 6; what++) {
            s.asks(States::rich, sets[what], "peas", what);
        }
        s.asks(States::pushed30, 1, "peas", 3);
        // Those that are gone are held no more.
        PlatePeas x = pushed("p22;oo;o.;f1", 2, 0, 11);
        held(x, 0, 0, 0b100, 0b100);
        s.due(x, 0b011, "peas", 0);
        PlatePeas none = Due.laid("p22;..;..;f1");
        for (int what = 0; what < 6; what++) {
            s.due(none, 0, "peas", what);
        }
        s.promise(10, "OUTSIDE: 0 .. 5");
        s.refused(States::rich, -2, "peas", 6);
        for (int what : BELOW_AND_FAR) {
            s.refused(States::rich, -2, "peas", what);
        }
        s.promise(10, "STATE: there is no PLATE.");
        for (int what = 0; what < 6; what++) {
            s.refused(States::bare, -3, "peas", what);
        }
    }

    private void promise11() {
        s.promise(11, "What a PUSH more would do: where its PEA is then (what 0; NONE)");
        s.asks(States::rich, 2, "would", 0, 0, 1, 0);
        s.asks(States::rich, 8, "would", 0, 0, 2, 0);
        s.asks(States::rich, -9, "would", 0, 0, 0, 0);
        s.asks(States::pushed30, 2, "would", 0, 0, 2, 0);
        s.asks(States::pushed30, -9, "would", 0, 0, 1, 0);
        s.promise(11, "PEAS that are HAD then in all, as a set (1)");
        s.asks(States::rich, 0b010, "would", 0, 0, 1, 1);
        s.asks(States::rich, 0b010, "would", 0, 0, 0, 1);
        s.asks(States::pushed30, 1, "would", 0, 0, 1, 1);
        s.asks(States::pushed30, 0, "would", 0, 0, 0, 1);
        s.promise(11, "that are elsewhere than now, as a set (2).");
        s.asks(States::rich, 0b001, "would", 0, 0, 1, 2);
        // Gone is elsewhere; one that comes back to where it was is not.
        s.asks(States::rich, 0b001, "would", 0, 0, 0, 2);
        s.asks(States::pushed30, 1, "would", 0, 0, 1, 2);
        s.asks(States::pushed30, 0, "would", 0, 0, 0, 2);
        PlatePeas x = Due.laid("p26;o.o.o.;......;f4;k4");
        s.due(x, 0b011, "would", 0, 0, 1, 2);
        s.due(x, 0b111, "would", 1, 0, 1, 2);
    }

    private void promise11Refusals() {
        s.promise(11, "UNKNOWN: EATER, PEA");
        s.refused(States::rich, -1, "would", 2, 0, 0, 0);
        s.refused(States::rich, -1, "would", 0, 3, 0, 0);
        s.refused(States::bare, -1, "would", 0, 0, 0, 0);
        s.promise(11, "OUTSIDE: d, what");
        s.refused(States::rich, -2, "would", 0, 0, 4, 0);
        s.refused(States::rich, -2, "would", 0, 0, 0, 3);
        for (int number : BELOW_AND_FAR) {
            s.refused(States::rich, -1, "would", number, 0, 0, 0);
            s.refused(States::rich, -1, "would", 0, number, 0, 0);
            s.refused(States::rich, -2, "would", 0, 0, number, 0);
            s.refused(States::rich, -2, "would", 0, 0, 0, number);
        }
        s.promise(11, "STATE: it is not on the PLATE.");
        for (int what = 0; what < 3; what++) {
            s.refused(States::rich, -3, "would", 0, 1, 0, what);
            s.refused(States::rich, -3, "would", 1, 2, 3, what);
        }
    }
}
