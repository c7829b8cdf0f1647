import java.util.ArrayList;
import java.util.List;

/** Part 1 and promises 1 to 6 and 32. */
final class PlateEdges {
    private static final int[] BELOW_AND_FAR = {Integer.MIN_VALUE, -9, -1, 1000, Integer.MAX_VALUE};
    /** Each kind of place of a text is in it. */
    private static final String TEXT = "p23;o.m;g..;k2;s1";

    private final Sentences s;

    PlateEdges(Sentences s) {
        this.s = s;
    }

    void all() {
        sizes();
        rows();
        squares();
        peasOfTexts();
        eatersOfTexts();
        firstFaults();
        tooManyPeasOrEaters();
        endsTooSoon();
        codes();
        kinds();
        anew();
        forces();
        directions();
        promise1();
        promise2();
        promise2Refusals();
        promise3();
        promise4();
        promise4State();
        promise5();
        promise6();
        promise32();
    }

    private void taken(String text, int peas) {
        s.is("plate by '" + text + "'", Due.lay(new PlatePeas(), text), peas);
    }

    /** The text is not taken, with this place as its first fault, and what there is stays. */
    private void notTaken(String text, int place) {
        s.is("plate by '" + text + "'", Due.lay(new PlatePeas(), text), -100 - place);
        PlatePeas x = Due.laid("p22;o.;..;f1");
        x.law(2);
        x.push(0, 0, 0);
        x.reading(0, 3);
        Due.lay(x, text);
        s.due(x, 0, "fault");
        int[] stays = {4, 2, 1, 1, 1, 1, 2};
        for (int what = 0; what < 7; what++) {
            s.due(x, stays[what], "many", what);
        }
        s.due(x, 1, "peas", 0);
    }

    // ---- part 1

    private static String sized(char high, char wide) {
        return "p" + high + wide + (";" + ".".repeat(wide - '0')).repeat(high - '0') + ";f1";
    }

    private void sizes() {
        s.part(1, "A PLATE by a TEXT: p");
        notTaken("q22;..;..;f1", 0);
        notTaken("22;..;..;f1", 0);
        taken("p22;..;..;f1", 0);
        s.part(1, "a digit 2 .. 5 (HIGH)");
        for (char high = '/'; high <= ':'; high++) {
            if (high >= '2' && high <= '5') {
                taken(sized(high, '2'), 0);
            } else {
                notTaken("p" + high + "2;..;..;f1", 1);
            }
        }
        s.part(1, "a digit 2 .. 6 (WIDE)");
        for (char wide = '/'; wide <= ':'; wide++) {
            if (wide >= '2' && wide <= '6') {
                taken(sized('5', wide), 0);
            } else {
                notTaken("p2" + wide + ";..;..;f1", 2);
            }
        }
    }

    private void rows() {
        s.part(1, "then HIGH times: ; and WIDE signs");
        notTaken("p32;..;..;f1", 10);
        notTaken("p22;..;..;..;f1", 10);
        notTaken("p23;..;...;f1", 6);
        notTaken("p22;...;..;f1", 6);
        notTaken("p22..;..;f1", 3);
    }

    private void squares() {
        s.part(1, "SQUARES, numbered from 0 on by rows from above, in a row from the left");
        PlatePeas x = Due.laid("p32;.g;mg;..;f1");
        int[] signs = {0, 1, 2, 1, 0, 0};
        for (int c = 0; c < 6; c++) {
            s.due(x, signs[c], "sign", c);
        }
        s.part(1, ". (0, BARE), g (1, GRAVY), m (2, MASH), o (BARE, with a PEA");
        PlatePeas y = Due.laid("p22;.g;mo;f1");
        for (int c = 0; c < 4; c++) {
            s.due(y, c % 3, "sign", c);
        }
        s.due(y, 1, "many", 2);
        s.due(y, 3, "where", 0);
    }

    private void peasOfTexts() {
        s.part(1, "5 at most, numbered as they are told from 0 on)");
        PlatePeas x = Due.laid("p33;..o;o.o;oo.;f1");
        int[] spots = {2, 3, 5, 6, 7};
        for (int pea = 0; pea < 5; pea++) {
            s.due(x, spots[pea], "where", pea);
        }
        s.due(x, -1, "where", 5);
        taken("p33;..o;o.o;oo.;f1", 5);
        notTaken("p33;..o;o.o;ooo;f1", 14);
    }

    private void eatersOfTexts() {
        s.part(1, "then 1 or 2 EATERS, numbered from 0 on, each: ; and a letter");
        notTaken("p22;..;..", 9);
        notTaken("p22;..;..f1", 9);
        notTaken("p22;..;..;1", 10);
        notTaken("p22;..;..;f1k1", 12);
        PlatePeas one = Due.laid("p22;..;..;k1");
        s.due(one, 1, "many", 3);
        s.due(one, 1, "ofEater", 0, 0);
        s.due(one, -1, "ofEater", 1, 0);
        PlatePeas two = Due.laid("p22;..;..;s1;f4");
        s.due(two, 2, "many", 3);
        s.due(two, 2, "ofEater", 0, 0);
        s.due(two, 0, "ofEater", 1, 0);
        s.due(two, -1, "ofEater", 2, 0);
        s.part(1, "a digit 1 .. 4 (STRENGTH)");
        for (char strength = '/'; strength <= ':'; strength++) {
            if (strength >= '1' && strength <= '4') {
                PlatePeas x = Due.laid("p22;..;..;f" + strength + ";k" + strength);
                s.due(x, strength - '0', "ofEater", 0, 1);
                s.due(x, strength - '0', "ofEater", 1, 1);
            } else {
                notTaken("p22;..;..;f" + strength, 11);
                notTaken("p22;..;..;f1;s" + strength, 14);
            }
        }
    }

    private void firstFaults() {
        s.part(1, "FIRST FAULT: the place (from 0 on) of the first code with which no TEXT goes on");
        for (int place = 0; place < TEXT.length(); place++) {
            notTaken(TEXT.substring(0, place) + "x" + TEXT.substring(place + 1), place);
        }
        notTaken("p23;o.x;x..;k2;s1", 6);
        notTaken(TEXT + "x", 17);
        notTaken("p22;..;..;f1x", 12);
    }

    private void tooManyPeasOrEaters() {
        s.part(1, "(the o of a sixth PEA, the ; of a third EATER)");
        notTaken("p23;ooo;ooo;f1", 10);
        notTaken("p56;o.....;.o....;..o...;...o..;....oo;f1", 37);
        taken("p56;o.....;.o....;..o...;...o..;.....o;f1", 5);
        notTaken("p22;..;..;f1;f1;f1", 15);
        notTaken("p22;..;..;f1;f1;", 15);
    }

    private void endsTooSoon() {
        s.part(1, "how many codes there are, if it just ends too soon.");
        for (int n = 0; n <= TEXT.length(); n++) {
            if (n == 14 || n == 17) {
                taken(TEXT.substring(0, n), 1);
            } else {
                notTaken(TEXT.substring(0, n), n);
            }
        }
    }

    /** All codes that may stand at a place of the text. */
    private static String goingOn(int place) {
        String[] heads = {"p", "2345", "23456"};
        if (place < 3) {
            return heads[place];
        }
        if (place < 11) {
            return (place - 3) % 4 == 0 ? ";" : ".gmo";
        }
        return new String[] {";", "fks", "1234"}[(place - 11) % 3];
    }

    private void codes() {
        s.part(1, "(Codes: p 112, ; 59, . 46, g 103, m 109, o 111, f 102, k 107, s 115, digits 48 .. 57.)");
        List<Integer> tried = new ArrayList<>(List.of(0, 256, Integer.MIN_VALUE, Integer.MAX_VALUE));
        for (int code : new int[] {112, 59, 46, 103, 109, 111, 102, 107, 115, 48, 49, 50, 51, 52, 53, 54, 55, 56, 57}) {
            tried.addAll(List.of(code, code + 1, code - 1, -code, code - 32, code + 256, code + 65536));
        }
        for (int place = 0; place < TEXT.length(); place++) {
            PlatePeas x = new PlatePeas();
            Due.write(x, 0, 2, TEXT.chars().toArray());
            for (int code : tried) {
                x.put(0, place, code);
                boolean goesOn = code > 0 && code < 128 && goingOn(place).indexOf(code) >= 0;
                // At places 13 and 16 an eater is whole; there is one pea, but for what stands at this place.
                int whole = place == 13 || place == 16 ? 1 : -100 - place - 1;
                s.is("code " + code + " at " + place, x.plate(0, 2, 0, place + 1), goesOn ? whole : -100 - place);
            }
        }
    }

    private void kinds() {
        s.part(1, "Kinds: 0 FORK (f); 1 KNIFE (k), a FORK; 2 SPOON (s), a KNIFE.");
        for (int kind = 0; kind < 3; kind++) {
            PlatePeas x = Due.laid("p22;..;..;" + "fks".charAt(kind) + "1");
            s.due(x, kind, "ofEater", 0, 0);
            for (int as = 0; as < 3; as++) {
                s.due(x, as <= kind ? 1 : -12, "as", 0, as);
            }
        }
    }

    private void anew() {
        s.part(1, "A TEXT that is taken makes all anew: no PUSHES, no READINGS, the LAW is 0.");
        PlatePeas x = States.rich();
        s.is("a new text", Due.lay(x, "p22;.o;..;k1"), 1);
        int[] counts = {4, 2, 1, 1, 0, 0, 0};
        for (int what = 0; what < 7; what++) {
            s.due(x, counts[what], "many", what);
        }
        s.due(x, 1, "where", 0);
        s.due(x, -1, "where", 1);
        s.due(x, 0, "peas", 0);
        s.due(x, 0, "peas", 1);
        s.due(x, 0, "sign", 3);
        s.due(x, -1, "sign", 4);
        s.due(x, 4, "last", -1);
        s.due(x, -2, "undo", 1);
        s.due(x, -2, "back", 1);
        s.is("the same text again", Due.lay(x, "p22;.o;..;k1"), 1);
        s.due(x, 0, "push", 0, 0, 3);
        s.due(x, 0, "reading", 0, 3);
        String[] texts = {"p22;..;..;f1", "p23;ooo;oo.;f1;s4", "p22;m.;.o;k1", "p22;oo;gm;s2", "p22;..;..;f1"};
        int[] codes = {0, 40, 4, 8, 0};
        for (int k = 0; k < texts.length; k++) {
            Due.lay(x, texts[k]);
            s.due(x, codes[k], "last", -1);
        }
    }

    private void forces() {
        s.part(1, "FORCE: of a FORK its STRENGTH; of a KNIFE 1 more; of a SPOON twice what a KNIFE's is.");
        int[][] forces = {{1, 2, 3, 4}, {2, 3, 4, 5}, {4, 6, 8, 10}};
        for (int kind = 0; kind < 3; kind++) {
            for (int strength = 1; strength <= 4; strength++) {
                PlatePeas x = Due.laid("p22;..;..;" + "fks".charAt(kind) + strength);
                s.due(x, forces[kind][strength - 1], "ofEater", 0, 2);
            }
        }
    }

    private void directions() {
        s.part(1, "DIRECTIONS: 0 up, 1 right, 2 down, 3 left.");
        PlatePeas x = Due.laid("p34;....;.o..;....;f1");
        int[] next = {1, 6, 9, 4};
        for (int d = 0; d < 4; d++) {
            s.due(x, next[d], "would", 0, 0, d, 0);
        }
    }

    // ---- promises

    private void promise1() {
        s.promise(1, "No PLATE (no SQUARES, PEAS, EATERS)");
        PlatePeas x = new PlatePeas();
        for (int what = 0; what < 7; what++) {
            s.due(x, 0, "many", what);
        }
        s.due(x, -1, "sign", 0);
        s.due(x, -1, "where", 0);
        s.due(x, -1, "ofEater", 0, 0);
        s.due(x, -3, "laws");
        s.due(x, 0, "undo", 0);
        s.due(x, 0, "back", 0);
        s.due(x, 0, "trace");
        s.due(x, 0, "fault");
        s.promise(1, "SHEETS have nothing.");
        for (int k = 0; k < 4; k++) {
            s.due(x, -11, "put", k, 0, 0);
            s.due(x, 0, "lose", k);
        }
    }

    private void promise2() {
        s.promise(2, "A PLATE by a TEXT of n cells of a SHEET from i on, taken as a row of a LANE: how many PEAS");
        String text = "p22;oo;.o;k2";
        for (int lane = 0; lane < 3; lane++) {
            for (int sheet = 0; sheet < 4; sheet++) {
                PlatePeas x = new PlatePeas();
                Due.write(x, sheet, lane, ("x" + text).chars().toArray());
                s.due(x, 3, "plate", sheet, lane, 1, 12);
            }
        }
        PlatePeas longest = new PlatePeas();
        Due.write(longest, 0, 0, (".".repeat(16) + "p56" + ";......".repeat(5) + ";s4;s4").chars().toArray());
        s.due(longest, 0, "plate", 0, 0, 16, 44);
        s.due(longest, 30, "many", 0);
        s.promise(2, "-100 less the FIRST FAULT.");
        PlatePeas x = new PlatePeas();
        Due.write(x, 0, 0, ("xx" + text + ";").chars().toArray());
        s.due(x, -100, "plate", 0, 0, 0, 14);
        s.due(x, -100, "plate", 0, 0, 2, 0);
        s.due(x, -111, "plate", 0, 0, 2, 11);
        s.due(x, -113, "plate", 0, 0, 2, 13);
        s.due(x, 0, "many", 0);
        s.due(x, 3, "plate", 0, 0, 2, 12);
    }

    private void promise2Refusals() {
        s.promise(2, "UNKNOWN");
        for (int sheet : new int[] {Integer.MIN_VALUE, -1, 4, Integer.MAX_VALUE}) {
            s.refused(States::rich, -1, "plate", sheet, 0, 0, 24);
        }
        s.promise(2, "OUTSIDE: lane");
        for (int lane : new int[] {Integer.MIN_VALUE, -1, 3, Integer.MAX_VALUE}) {
            s.refused(States::rich, -2, "plate", 3, lane, 0, 24);
        }
        s.promise(2, "CAST (nothing is no CAST)");
        s.fails(States::rich, 2, "plate", 3, 1, 0, 24);
        s.fails(States::rich, 2, "plate", 3, 2, 0, 24);
        s.fails(States::rich, 1, "plate", 2, 1, 0, 24);
        s.promise(2, "NULL");
        for (int lane = 0; lane < 3; lane++) {
            s.fails(States::rich, 1, "plate", 2, lane, 0, 0);
        }
        s.promise(2, "SIZE: n below 0");
        s.fails(States::rich, 4, "plate", 3, 0, 0, -1);
        s.fails(States::rich, 4, "plate", 3, 0, 25, Integer.MIN_VALUE);
        s.promise(2, "INDEX");
        s.fails(States::rich, 3, "plate", 3, 0, 0, 25);
        s.fails(States::rich, 3, "plate", 3, 0, 1, 24);
        s.fails(States::rich, 3, "plate", 3, 0, -1, 24);
        s.fails(States::rich, 3, "plate", 3, 0, 24, 1);
        s.fails(States::rich, 3, "plate", 3, 0, 1, Integer.MAX_VALUE);
        s.fails(States::rich, 3, "plate", 3, 0, Integer.MAX_VALUE, Integer.MAX_VALUE);
        s.promise(2, "-100 less it.");
        s.asks(States::rich, -123, "plate", 3, 0, 0, 23);
        s.asks(States::rich, -100, "plate", 3, 0, 24, 0);
        s.asks(States::rich, -100, "plate", 3, 0, 1, 23);
    }

    private void promise3() {
        s.promise(3, "The sign of a SQUARE (0 .. 2).");
        s.asks(States::rich, 0, "sign", 0);
        s.asks(States::rich, 2, "sign", 3);
        s.asks(States::rich, 1, "sign", 5);
        s.asks(States::rich, 0, "sign", 11);
        s.promise(3, "UNKNOWN.");
        s.refused(States::rich, -1, "sign", 12);
        s.refused(States::bare, -1, "sign", 0);
        for (int c : BELOW_AND_FAR) {
            s.refused(States::rich, -1, "sign", c);
        }
    }

    private void promise4() {
        s.promise(4, "A SQUARE becomes a sign: which it was.");
        PlatePeas x = Due.laid("p22;..;.o;f1");
        int was = 0;
        for (int sign : new int[] {0, 1, 2, 0, 2, 2, 1, 1, 0}) {
            s.due(x, was, "set", 0, sign);
            s.due(x, sign, "sign", 0);
            was = sign;
        }
        s.due(x, 0, "sign", 1);
        // The pushes are done anew on the squares as they are.
        x.push(0, 0, 0);
        s.due(x, 1, "where", 0);
        s.due(x, 0, "set", 1, 2);
        s.due(x, -9, "where", 0);
        s.due(x, 1, "peas", 0);
        s.due(x, 2, "set", 1, 1);
        s.due(x, 1, "where", 0);
        s.promise(4, "UNKNOWN");
        s.refused(States::rich, -1, "set", 12, 0);
        s.refused(States::bare, -1, "set", 0, 0);
        for (int c : BELOW_AND_FAR) {
            s.refused(States::rich, -1, "set", c, 0);
        }
        s.promise(4, "OUTSIDE");
        s.refused(States::rich, -2, "set", 11, 3);
        for (int sign : BELOW_AND_FAR) {
            s.refused(States::rich, -2, "set", 11, sign);
        }
    }

    private void promise4State() {
        s.promise(4, "STATE: a PEA was on it by the TEXT, and it is to be MASH.");
        // One that is there still, one that is had, one that is off: they all were there by the text.
        s.refused(States::rich, -3, "set", 0, 2);
        s.refused(States::rich, -3, "set", 1, 2);
        s.refused(States::rich, -3, "set", 6, 2);
        PlatePeas x = Due.laid("p22;o.;..;f1");
        x.push(0, 0, 1);
        s.due(x, -3, "set", 0, 2);
        // A pea is on it now, but was not by the text.
        s.due(x, 0, "set", 1, 2);
        s.due(x, 2, "sign", 1);
        s.due(x, 0, "set", 0, 1);
        s.due(x, 1, "set", 0, 0);
    }

    private void promise5() {
        s.promise(5, "Of an EATER: 0 kind, 1 STRENGTH, 2 FORCE.");
        int[][] of = {{0, 2, 2}, {2, 1, 4}};
        for (int e = 0; e < 2; e++) {
            for (int what = 0; what < 3; what++) {
                s.asks(States::rich, of[e][what], "ofEater", e, what);
            }
        }
        s.promise(5, "UNKNOWN");
        s.refused(States::rich, -1, "ofEater", 2, 0);
        s.refused(States::pushed30, -1, "ofEater", 1, 0);
        s.refused(States::bare, -1, "ofEater", 0, 0);
        for (int e : BELOW_AND_FAR) {
            s.refused(States::rich, -1, "ofEater", e, 0);
        }
        s.promise(5, "OUTSIDE.");
        s.refused(States::rich, -2, "ofEater", 0, 3);
        for (int what : BELOW_AND_FAR) {
            s.refused(States::rich, -2, "ofEater", 1, what);
        }
    }

    private void promise6() {
        s.promise(6, "The LAW becomes v: what it was.");
        PlatePeas x = Due.laid("p22;o.;..;f2");
        x.push(0, 0, 1);
        int was = 0;
        for (int v : new int[] {0, 1, 2, 2, 0, 2, 1, 1, 0}) {
            s.due(x, was, "law", v);
            s.due(x, v, "many", 6);
            // Goes to 1; turns there, or is off, or stops.
            s.due(x, v == 1 ? -9 : 1, "where", 0);
            was = v;
        }
        s.promise(6, "OUTSIDE");
        s.refused(States::rich, -2, "law", 3);
        for (int v : BELOW_AND_FAR) {
            s.refused(States::rich, -2, "law", v);
        }
        s.promise(6, "STATE: there is no PLATE.");
        for (int v = 0; v < 3; v++) {
            s.refused(States::bare, -3, "law", v);
        }
        PlatePeas y = new PlatePeas();
        Due.lay(y, "p22;..;..");
        s.due(y, -3, "law", 0);
    }

    private void promise32() {
        s.promise(32, "How many: 0 SQUARES, 1 WIDE, 2 PEAS by the TEXT, 3 EATERS, 4 PUSHES, 5 READINGS, 6 the LAW");
        int[] counts = {12, 4, 3, 2, 3, 2, 1};
        for (int what = 0; what < 7; what++) {
            s.asks(States::rich, counts[what], "many", what);
        }
        s.asks(States::pushed30, 30, "many", 4);
        s.asks(States::seen8, 8, "many", 5);
        s.promise(32, "(0 all without a PLATE)");
        for (int what = 0; what < 7; what++) {
            s.asks(States::bare, 0, "many", what);
        }
        s.promise(32, "OUTSIDE.");
        s.refused(States::rich, -2, "many", 7);
        s.refused(States::bare, -2, "many", 7);
        for (int what : BELOW_AND_FAR) {
            s.refused(States::rich, -2, "many", what);
        }
    }
}
