import java.util.Arrays;

/** Peas on a plate that are pushed by eaters: what comes of pushes, and what can be told from where peas were seen. */
public final class PlatePeas {
    public static final int UNKNOWN = -1, OUTSIDE = -2, STATE = -3, FULL = -4, NONE = -9;
    public static final long LOST = Long.MIN_VALUE;

    private static final int NO_FAULT = 0, NULL_FAULT = 1, CAST_FAULT = 2, INDEX_FAULT = 3, SIZE_FAULT = 4;
    private static final int BARE = 0, GRAVY = 1, MASH = 2, SIGNS = 3;
    private static final int LAW_TURNS = 0, LAW_OFF = 1, LAW_STOPS = 2, LAWS = 3;
    private static final int FORKS = 0, KNIVES = 1, KINDS = 3;
    private static final int DIRECTIONS = 4;
    private static final int RIM = -1;
    private static final int MOST_HIGH = 5, MOST_WIDE = 6, MOST_SQUARES = 30, MOST_PEAS = 5, MOST_EATERS = 2;
    private static final int MOST_CODES = 40, MOST_STRENGTH = 4;
    private static final int MOST_PUSHES = 30, MOST_READINGS = 8, MOST_MORE = 3, LONGEST_ROW = 20;
    private static final int SHEETS = 4, LANES = 3, MOST_CELLS = 60;
    private static final int[] DOWN = {-1, 0, 1, 0};
    private static final int[] ACROSS = {0, 1, 0, -1};
    /** The share of 0 to 4 directions of the four, in least terms. */
    private static final int[] UPPER = {0, 1, 1, 3, 1};
    private static final int[] LOWER = {1, 4, 2, 4, 1};

    private Plate table;
    /** A text is read here first, so that one that is not taken changes nothing. */
    private Plate draft;
    private int lawNow;
    private final int[] pushCodes = new int[MOST_PUSHES];
    private int pushCount;
    private final int[] seenPeas = new int[MOST_READINGS];
    private final int[] seenSquares = new int[MOST_READINGS];
    private int readingCount;
    private final Spots now;
    private final Spots trial;
    private final Search search;
    private final Sheet[] sheets = new Sheet[SHEETS];
    private final Trace traced = new Trace();
    private int latestFault;

    public PlatePeas() {
        Plate empty = new Plate();
        now = new Spots(empty);
        trial = new Spots(empty);
        search = new Search(empty);
        table = empty;
        draft = new Plate();
        for (int k = 0; k < SHEETS; k++) {
            sheets[k] = new Sheet();
        }
    }

    // ---- 1 the plate

    public int plate(int sheet, int lane, int i, int n) {
        latestFault = NO_FAULT;
        Sheet from = sheetAt(sheet);
        if (from == null) {
            return UNKNOWN;
        }
        if (!isBelow(lane, LANES)) {
            return OUTSIDE;
        }
        int fault = from.faultOfCells(lane, i, n);
        if (fault != NO_FAULT) {
            return failed(fault);
        }
        int firstFault = draft.readText(from, i, n);
        if (firstFault != NONE) {
            return -100 - firstFault;
        }
        takeDraft();
        return table.peaCount;
    }

    public int sign(int c) {
        return table.hasSquare(c) ? table.signAt(c) : UNKNOWN;
    }

    public int set(int c, int sign) {
        if (!table.hasSquare(c)) {
            return UNKNOWN;
        }
        if (!isBelow(sign, SIGNS)) {
            return OUTSIDE;
        }
        if (sign == MASH && table.startsOn(c)) {
            return STATE;
        }
        int was = table.signAt(c);
        table.changeSign(c, sign);
        replayNow();
        return was;
    }

    public int ofEater(int e, int what) {
        Fork eater = table.eaterAt(e);
        if (eater == null) {
            return UNKNOWN;
        }
        switch (what) {
            case 0:
                return eater.kindNumber();
            case 1:
                return eater.strength;
            case 2:
                return eater.pushForce();
            default:
                return OUTSIDE;
        }
    }

    public int law(int v) {
        if (!isBelow(v, LAWS)) {
            return OUTSIDE;
        }
        if (!table.isLaid()) {
            return STATE;
        }
        int was = lawNow;
        lawNow = v;
        replayNow();
        return was;
    }

    // ---- 2 pushes

    public int push(int e, int pea, int d) {
        int refusal = refusalOfPush(e, pea, d);
        if (refusal != 0) {
            return refusal;
        }
        if (pushCount >= MOST_PUSHES) {
            return FULL;
        }
        int code = codeOf(e, pea, d);
        pushCodes[pushCount] = code;
        pushCount++;
        now.pushByCode(code);
        return pushCount - 1;
    }

    public int undo(int k) {
        if (k < 0 || k > pushCount) {
            return OUTSIDE;
        }
        pushCount -= k;
        replayNow();
        return pushCount;
    }

    public int where(int pea) {
        return table.hasPea(pea) ? now.spotOf(pea) : UNKNOWN;
    }

    public int peas(int what) {
        if (!isBelow(what, 2 + DIRECTIONS)) {
            return OUTSIDE;
        }
        if (!table.isLaid()) {
            return STATE;
        }
        if (what == 0) {
            return now.had;
        }
        return what == 1 ? now.off : now.heldSet(what - 2);
    }

    public int would(int e, int pea, int d, int what) {
        int refusal = refusalOfPush(e, pea, d);
        if (refusal != 0) {
            return refusal;
        }
        if (!isBelow(what, 3)) {
            return OUTSIDE;
        }
        if (!now.isOn(pea)) {
            return STATE;
        }
        trial.copyFrom(now);
        trial.pushByCode(codeOf(e, pea, d));
        if (what == 0) {
            return trial.spotOf(pea);
        }
        return what == 1 ? trial.had : trial.elsewhereThan(now);
    }

    // ---- 3 fewest, most, walls

    public int fewest(int pea, int q) {
        if (!table.hasPea(pea) || q < -1) {
            return UNKNOWN;
        }
        int length = now.isHad(pea) ? 0 : NONE;
        search.levels[0].copyFrom(now);
        for (int tried = 1; length == NONE && tried <= MOST_MORE; tried++) {
            if (findsRow(search, pea, 0, tried)) {
                length = tried;
            }
        }
        if (q == -1) {
            return length;
        }
        return q < length ? search.found[q] : NONE;
    }

    public int most(int n) {
        if (n < 0 || n > MOST_MORE) {
            return OUTSIDE;
        }
        if (!table.isLaid()) {
            return STATE;
        }
        search.levels[0].copyFrom(now);
        return mostHad(search, 0, n);
    }

    public int wall(int e, int pea, int d) {
        int refusal = refusalOfPush(e, pea, d);
        if (refusal != 0) {
            return refusal;
        }
        if (!now.isOn(pea)) {
            return STATE;
        }
        // Whether a pea is held hangs on the one square behind the line of peas that it begins.
        int square = now.behindLine(pea, d);
        return square != RIM && table.signAt(square) == BARE ? square : NONE;
    }

    public int row(int sheet, int lane, int i, int n) {
        latestFault = NO_FAULT;
        Sheet from = sheetAt(sheet);
        if (from == null) {
            return UNKNOWN;
        }
        if (!isBelow(lane, LANES)) {
            return OUTSIDE;
        }
        if (!table.isLaid()) {
            return STATE;
        }
        int fault = from.faultOfCells(lane, i, n);
        if (fault != NO_FAULT) {
            return failed(fault);
        }
        if (n > LONGEST_ROW) {
            return OUTSIDE;
        }
        return areCodes(from, i, n) ? hadByRow(from, i, n) : UNKNOWN;
    }

    // ---- 4 odds, what was seen

    public long odds(int e, int pea, int which) {
        if (table.eaterAt(e) == null || !table.hasPea(pea)) {
            return LOST;
        }
        if (!isBelow(which, 2) || !now.isOn(pea)) {
            return LOST;
        }
        int holds = now.countHolds(pea);
        return which == 0 ? UPPER[holds] : LOWER[holds];
    }

    public int reading(int pea, int c) {
        if (!table.hasPea(pea)) {
            return UNKNOWN;
        }
        if (c != NONE && !table.hasSquare(c)) {
            return UNKNOWN;
        }
        if (readingCount >= MOST_READINGS) {
            return FULL;
        }
        seenPeas[readingCount] = pea;
        seenSquares[readingCount] = c;
        readingCount++;
        return readingCount - 1;
    }

    public int back(int k) {
        if (k < 0 || k > readingCount) {
            return OUTSIDE;
        }
        readingCount -= k;
        return readingCount;
    }

    public int last(int k) {
        if (k < -1) {
            return UNKNOWN;
        }
        if (!table.isLaid()) {
            return STATE;
        }
        int fitting = 0;
        for (int x = 0; x < table.codeCount; x++) {
            trial.copyFrom(now);
            trial.pushByCode(table.codes[x]);
            if (readingsAreSo(trial)) {
                if (fitting == k) {
                    return table.codes[x];
                }
                fitting++;
            }
        }
        return k == -1 ? fitting : NONE;
    }

    public int laws() {
        if (!table.isLaid()) {
            return STATE;
        }
        int set = 0;
        for (int v = 0; v < LAWS; v++) {
            replay(trial, v, NONE);
            if (readingsAreSo(trial)) {
                set |= 1 << v;
            }
        }
        return set;
    }

    public int never() {
        if (!table.isLaid()) {
            return STATE;
        }
        int set = 0;
        for (int k = 0; k < pushCount; k++) {
            replay(trial, lawNow, k);
            if (readingsAreSo(trial)) {
                set |= 1 << k;
            }
        }
        return set;
    }

    // ---- 5 sheets, parts

    public int sheet(int k, int lane, int n) {
        latestFault = NO_FAULT;
        Sheet sheet = sheetAt(k);
        if (sheet == null) {
            return UNKNOWN;
        }
        if (!isBelow(lane, LANES) || n > MOST_CELLS) {
            return OUTSIDE;
        }
        if (n < 0) {
            return failed(SIZE_FAULT);
        }
        sheet.begin(lane, n);
        return 1;
    }

    public int lose(int k) {
        Sheet sheet = sheetAt(k);
        if (sheet == null) {
            return UNKNOWN;
        }
        int had = sheet.isNothing() ? 0 : 1;
        sheet.drop();
        return had;
    }

    public int put(int k, int i, int v) {
        latestFault = NO_FAULT;
        Sheet sheet = sheetAt(k);
        if (sheet == null) {
            return UNKNOWN;
        }
        if (sheet.isNothing()) {
            return failed(NULL_FAULT);
        }
        if (!sheet.hasCell(i)) {
            return failed(INDEX_FAULT);
        }
        sheet.write(i, v);
        return 1;
    }

    public long cell(int k, int i, int lane) {
        latestFault = NO_FAULT;
        Sheet sheet = sheetAt(k);
        if (sheet == null || !isBelow(lane, LANES)) {
            return LOST;
        }
        latestFault = sheet.faultOfCell(lane, i);
        return latestFault == NO_FAULT ? sheet.read(i) : LOST;
    }

    public int copy(int k, int i, int other, int j, int n) {
        latestFault = NO_FAULT;
        Sheet from = sheetAt(k);
        Sheet to = sheetAt(other);
        if (from == null || to == null) {
            return UNKNOWN;
        }
        if (from.isNothing() || to.isNothing()) {
            return failed(NULL_FAULT);
        }
        if (from.lane != to.lane) {
            return failed(CAST_FAULT);
        }
        if (!from.hasCells(i, n) || !to.hasCells(j, n)) {
            return failed(INDEX_FAULT);
        }
        System.arraycopy(from.cells, i, to.cells, j, n);
        return n;
    }

    public int tell(int e) {
        Fork eater = table.eaterAt(e);
        return eater == null ? UNKNOWN : eater.telling(traced);
    }

    public int polish(int e) {
        Fork eater = table.eaterAt(e);
        return eater == null ? UNKNOWN : eater.polished(traced);
    }

    public int as(int e, int kind) {
        latestFault = NO_FAULT;
        Fork eater = table.eaterAt(e);
        if (eater == null) {
            return UNKNOWN;
        }
        if (!isBelow(kind, KINDS)) {
            return OUTSIDE;
        }
        return isOfKind(eater, kind) ? 1 : failed(CAST_FAULT);
    }

    public int trace() {
        return traced.value;
    }

    public int fault() {
        return latestFault;
    }

    public int many(int what) {
        switch (what) {
            case 0:
                return table.high * table.wide;
            case 1:
                return table.wide;
            case 2:
                return table.peaCount;
            case 3:
                return table.eaterCount;
            case 4:
                return pushCount;
            case 5:
                return readingCount;
            case 6:
                return lawNow;
            default:
                return OUTSIDE;
        }
    }

    // ---- what the calls share

    private static boolean isBelow(int number, int bound) {
        return number >= 0 && number < bound;
    }

    private static int codeOf(int e, int pea, int d) {
        return 100 * e + 10 * pea + d;
    }

    private static boolean isOfKind(Fork eater, int kind) {
        if (kind == FORKS) {
            return true;
        }
        return kind == KNIVES ? eater instanceof Knife : eater instanceof Spoon;
    }

    private int failed(int fault) {
        latestFault = fault;
        return -10 - fault;
    }

    private Sheet sheetAt(int k) {
        return isBelow(k, SHEETS) ? sheets[k] : null;
    }

    /** The refusal of an eater, a pea, a direction; 0: none. */
    private int refusalOfPush(int e, int pea, int d) {
        if (table.eaterAt(e) == null || !table.hasPea(pea)) {
            return UNKNOWN;
        }
        return isBelow(d, DIRECTIONS) ? 0 : OUTSIDE;
    }

    private void takeDraft() {
        Plate old = table;
        table = draft;
        draft = old;
        lawNow = LAW_TURNS;
        pushCount = 0;
        readingCount = 0;
        now.beginOn(table, lawNow);
    }

    private void replayNow() {
        replay(now, lawNow, NONE);
    }

    /** All pushes but the one left out (NONE: none is), done anew by a law. */
    private void replay(Spots spots, int law, int leftOut) {
        spots.beginOn(table, law);
        for (int k = 0; k < pushCount; k++) {
            if (k != leftOut) {
                spots.pushByCode(pushCodes[k]);
            }
        }
    }

    private boolean readingsAreSo(Spots spots) {
        for (int k = 0; k < readingCount; k++) {
            if (spots.spotOf(seenPeas[k]) != seenSquares[k]) {
                return false;
            }
        }
        return true;
    }

    private boolean areCodes(Sheet from, int i, int n) {
        for (int x = 0; x < n; x++) {
            if (!table.isCode(from.read(i + x))) {
                return false;
            }
        }
        return true;
    }

    private int hadByRow(Sheet from, int i, int n) {
        trial.copyFrom(now);
        for (int x = 0; x < n; x++) {
            int code = from.read(i + x);
            if (!trial.isOn(peaOf(code))) {
                return -100 - x;
            }
            trial.pushByCode(code);
        }
        return trial.countHad();
    }

    private static int peaOf(int code) {
        return code / 10 % 10;
    }

    /** Whether a pea is had by a row that is told up to a level; the first such row is left in the search. */
    private static boolean findsRow(Search search, int pea, int level, int length) {
        if (!isBelow(level, MOST_MORE)) {
            return false;
        }
        Spots here = search.levels[level];
        if (level >= length - 1) {
            // Only a push of the pea itself has it, by whatever force: so the last one is eater 0's.
            int d = here.firstHold(pea);
            search.found[level] = codeOf(0, pea, d);
            return d != NONE;
        }
        Plate plate = here.plate;
        for (int x = 0; x < plate.codeCount; x++) {
            int code = plate.codes[x];
            if (search.stepsOn(level, code)) {
                search.found[level] = code;
                if (findsRow(search, pea, level + 1, length)) {
                    return true;
                }
            }
        }
        return false;
    }

    /** The most peas that are had by some pushes more from a level on. */
    private static int mostHad(Search search, int level, int more) {
        if (!isBelow(level, MOST_MORE)) {
            return 0;
        }
        Spots here = search.levels[level];
        int had = here.countHad();
        if (more <= 0) {
            return had;
        }
        if (more == 1) {
            // A push has its own pea at most.
            return here.holdsAny() ? had + 1 : had;
        }
        int best = had;
        Plate plate = here.plate;
        for (int x = 0; x < plate.codeCount && best < had + more; x++) {
            if (search.stepsOn(level, plate.codes[x])) {
                best = Math.max(best, mostHad(search, level + 1, more - 1));
            }
        }
        return best;
    }

    // ---- eaters

    /** What bodies of telling leave behind. */
    private static final class Trace {
        int value;

        void leave(int number) {
            value = 31 * value + number;
        }
    }

    private static class Fork {
        final int number;
        final int strength;

        Fork(int number, int strength) {
            this.number = number;
            this.strength = strength;
        }

        int kindNumber() {
            return 0;
        }

        int pushForce() {
            return strength;
        }

        int telling(Trace trace) {
            return forkTelling(trace);
        }

        /** Fork's own body, which a spoon comes to past the knife's. */
        final int forkTelling(Trace trace) {
            trace.leave(1);
            return strength;
        }

        int polished(Trace trace) {
            trace.leave(4);
            return number;
        }
    }

    private static class Knife extends Fork {
        Knife(int number, int strength) {
            super(number, strength);
        }

        int kindNumber() {
            return 1;
        }

        int pushForce() {
            return strength + 1;
        }

        int telling(Trace trace) {
            trace.leave(2);
            return super.telling(trace) + 100;
        }
    }

    private static final class Spoon extends Knife {
        Spoon(int number, int strength) {
            super(number, strength);
        }

        int kindNumber() {
            return 2;
        }

        int pushForce() {
            return 2 * super.pushForce();
        }

        int telling(Trace trace) {
            trace.leave(3);
            int asKnife = super.telling(trace);
            return asKnife + forkTelling(trace);
        }

        int polished(Trace trace) {
            trace.leave(5);
            return 30;
        }
    }

    // ---- squares

    /** Squares, where peas are at first, and eaters, by a text; none at first. */
    private static final class Plate {
        private static final int HEAD = 3, EATER_CODES = 3;

        int high;
        int wide;
        int peaCount;
        int eaterCount;
        int codeCount;
        /** The codes of all pushes that there are, rising. */
        final int[] codes = new int[MOST_CODES];
        private final int[] signs = new int[MOST_SQUARES];
        private final int[] starts = new int[MOST_PEAS];
        private final Fork[] eaters = new Fork[MOST_EATERS];
        private final int[] letters = new int[MOST_EATERS];
        private final int[] strengths = new int[MOST_EATERS];
        private int squareCount;

        boolean isLaid() {
            return eaterCount > 0;
        }

        boolean hasSquare(int c) {
            return isBelow(c, squareCount);
        }

        boolean hasPea(int pea) {
            return isBelow(pea, peaCount);
        }

        Fork eaterAt(int e) {
            return isBelow(e, eaterCount) ? eaters[e] : null;
        }

        int signAt(int c) {
            return c < 0 || c >= squareCount ? BARE : signs[c];
        }

        void changeSign(int c, int sign) {
            if (hasSquare(c)) {
                signs[c] = sign;
            }
        }

        int startOf(int pea) {
            return hasPea(pea) ? starts[pea] : NONE;
        }

        boolean startsOn(int c) {
            for (int pea = 0; pea < peaCount; pea++) {
                if (starts[pea] == c) {
                    return true;
                }
            }
            return false;
        }

        boolean isCode(int code) {
            return code >= 0 && isBelow(code / 100, eaterCount) && hasPea(peaOf(code))
                && isBelow(code % 10, DIRECTIONS);
        }

        /** The next square in a direction, or RIM. */
        int nextTo(int c, int d) {
            if (wide <= 0 || c < 0 || c >= squareCount || d < 0 || d >= DIRECTIONS) {
                return RIM;
            }
            int y = c / wide + DOWN[d];
            int x = c % wide + ACROSS[d];
            return y < 0 || y >= high || x < 0 || x >= wide ? RIM : y * wide + x;
        }

        /** Makes this plate by a text: NONE, or its first fault. */
        int readText(Sheet from, int i, int n) {
            wipe();
            for (int place = 0; place < n; place++) {
                if (!takes(place, from.read(i + place))) {
                    return place;
                }
            }
            if (eaterCount == 0 || n != HEAD + rowCodes() + EATER_CODES * eaterCount) {
                return n;
            }
            for (int e = 0; e < eaterCount; e++) {
                eaters[e] = eaterByLetter(letters[e], e, strengths[e]);
            }
            listCodes();
            return NONE;
        }

        private void wipe() {
            high = 0;
            wide = 0;
            squareCount = 0;
            peaCount = 0;
            eaterCount = 0;
            codeCount = 0;
        }

        private int rowCodes() {
            return high * (wide + 1);
        }

        private boolean takes(int place, int code) {
            switch (place) {
                case 0:
                    return code == 'p';
                case 1:
                    high = code - '0';
                    return high >= 2 && high <= MOST_HIGH;
                case 2:
                    wide = code - '0';
                    return wide >= 2 && wide <= MOST_WIDE;
                default:
                    return takesBehindHead(place - HEAD, code);
            }
        }

        private boolean takesBehindHead(int place, int code) {
            int rows = rowCodes();
            return place < rows ? takesInRow(place, code) : takesEater(place - rows, code);
        }

        private boolean takesInRow(int place, int code) {
            if (wide < 0 || place % (wide + 1) == 0) {
                return code == ';';
            }
            int sign = signOf(code);
            if (sign == NONE || squareCount >= MOST_SQUARES) {
                return false;
            }
            if (code == 'o') {
                if (peaCount >= MOST_PEAS) {
                    return false;
                }
                starts[peaCount] = squareCount;
                peaCount++;
            }
            signs[squareCount] = sign;
            squareCount++;
            return true;
        }

        private static int signOf(int code) {
            switch (code) {
                case '.':
                case 'o':
                    return BARE;
                case 'g':
                    return GRAVY;
                case 'm':
                    return MASH;
                default:
                    return NONE;
            }
        }

        private boolean takesEater(int place, int code) {
            if (eaterCount >= MOST_EATERS) {
                return false;
            }
            switch (place % EATER_CODES) {
                case 0:
                    return code == ';';
                case 1:
                    letters[eaterCount] = code;
                    return code == 'f' || code == 'k' || code == 's';
                default:
                    return takesStrength(code - '0');
            }
        }

        private boolean takesStrength(int strength) {
            if (eaterCount >= MOST_EATERS || strength < 1 || strength > MOST_STRENGTH) {
                return false;
            }
            strengths[eaterCount] = strength;
            eaterCount++;
            return true;
        }

        private static Fork eaterByLetter(int letter, int number, int strength) {
            switch (letter) {
                case 'k':
                    return new Knife(number, strength);
                case 's':
                    return new Spoon(number, strength);
                default:
                    return new Fork(number, strength);
            }
        }

        private void listCodes() {
            for (int e = 0; e < eaterCount; e++) {
                for (int pea = 0; pea < peaCount; pea++) {
                    for (int d = 0; d < DIRECTIONS && codeCount < MOST_CODES; d++) {
                        codes[codeCount] = codeOf(e, pea, d);
                        codeCount++;
                    }
                }
            }
        }
    }

    // ---- where peas are

    /** Where the peas of a plate are behind some pushes by a law, and which of them are gone. */
    private static final class Spots {
        Plate plate;
        /** Sets of peas. */
        int had;
        int off;
        private int law;
        private final int[] spots = new int[MOST_PEAS];

        Spots(Plate plate) {
            this.plate = plate;
        }

        void beginOn(Plate newPlate, int newLaw) {
            plate = newPlate;
            law = newLaw;
            had = 0;
            off = 0;
            for (int pea = 0; pea < MOST_PEAS; pea++) {
                spots[pea] = newPlate.startOf(pea);
            }
        }

        void copyFrom(Spots other) {
            plate = other.plate;
            law = other.law;
            had = other.had;
            off = other.off;
            for (int pea = 0; pea < MOST_PEAS; pea++) {
                spots[pea] = other.spots[pea];
            }
        }

        int spotOf(int pea) {
            return pea < 0 || pea >= MOST_PEAS ? NONE : spots[pea];
        }

        boolean isOn(int pea) {
            return spotOf(pea) != NONE;
        }

        boolean isHad(int pea) {
            return isBelow(pea, MOST_PEAS) && (had & 1 << pea) != 0;
        }

        int countHad() {
            return Integer.bitCount(had);
        }

        int elsewhereThan(Spots other) {
            int set = 0;
            for (int pea = 0; pea < MOST_PEAS; pea++) {
                if (spots[pea] != other.spots[pea]) {
                    set |= 1 << pea;
                }
            }
            return set;
        }

        /** The first square without a pea beyond a pea in a direction, or RIM. */
        int behindLine(int pea, int d) {
            int square = plate.nextTo(spotOf(pea), d);
            for (int more = 0; more < MOST_PEAS && square != RIM && peaOn(square) != NONE; more++) {
                square = plate.nextTo(square, d);
            }
            return square;
        }

        boolean isHeld(int pea, int d) {
            if (!isOn(pea)) {
                return false;
            }
            int square = behindLine(pea, d);
            return square == RIM ? law == LAW_STOPS : plate.signAt(square) == MASH;
        }

        int heldSet(int d) {
            int set = 0;
            for (int pea = 0; pea < MOST_PEAS; pea++) {
                if (isHeld(pea, d)) {
                    set |= 1 << pea;
                }
            }
            return set;
        }

        boolean holdsAny() {
            for (int pea = 0; pea < MOST_PEAS; pea++) {
                if (firstHold(pea) != NONE) {
                    return true;
                }
            }
            return false;
        }

        /** The least direction in which a pea is held, or NONE. */
        int firstHold(int pea) {
            for (int d = 0; d < DIRECTIONS; d++) {
                if (isHeld(pea, d)) {
                    return d;
                }
            }
            return NONE;
        }

        int countHolds(int pea) {
            int holds = 0;
            for (int d = 0; d < DIRECTIONS; d++) {
                if (isHeld(pea, d)) {
                    holds++;
                }
            }
            return holds;
        }

        void pushByCode(int code) {
            Fork eater = plate.eaterAt(code / 100);
            int pea = peaOf(code);
            int d = code % 10;
            if (eater == null || !isOn(pea)) {
                return;
            }
            if (isHeld(pea, d)) {
                had |= 1 << pea;
                spots[pea] = NONE;
            } else {
                roll(pea, d, eater.pushForce());
            }
        }

        /** Each step takes 1 of the force: a turn, a square, and a strike, by which the next pea goes on. */
        private void roll(int firstPea, int firstDirection, int force) {
            int pea = firstPea;
            int d = firstDirection;
            for (int more = force; more > 0; more--) {
                int square = plate.nextTo(spots[pea], d);
                if (square == RIM) {
                    if (law != LAW_TURNS) {
                        comeToRim(pea);
                        return;
                    }
                    d = (d + 2) % DIRECTIONS;
                } else if (plate.signAt(square) == MASH) {
                    return;
                } else if (peaOn(square) != NONE) {
                    pea = peaOn(square);
                } else {
                    spots[pea] = square;
                    if (plate.signAt(square) == GRAVY) {
                        return;
                    }
                }
            }
        }

        private void comeToRim(int pea) {
            if (law == LAW_OFF) {
                off |= 1 << pea;
                spots[pea] = NONE;
            }
        }

        private int peaOn(int square) {
            for (int pea = 0; pea < MOST_PEAS; pea++) {
                if (spots[pea] == square) {
                    return pea;
                }
            }
            return NONE;
        }
    }

    /** Room for rows of pushes that are tried, used again by each call. */
    private static final class Search {
        /** Where peas are behind so many of the row's pushes. */
        final Spots[] levels = new Spots[MOST_MORE];
        final int[] found = new int[MOST_MORE];

        Search(Plate plate) {
            for (int level = 0; level < MOST_MORE; level++) {
                levels[level] = new Spots(plate);
            }
        }

        /** Fills the next level by a push; false: its pea is not on the plate. */
        boolean stepsOn(int level, int code) {
            if (!isBelow(level, MOST_MORE - 1) || !levels[level].isOn(peaOf(code))) {
                return false;
            }
            levels[level + 1].copyFrom(levels[level]);
            levels[level + 1].pushByCode(code);
            return true;
        }
    }

    // ---- sheets

    /** Nothing, or a row of numbers of a lane. */
    private static final class Sheet {
        private static final int NOTHING = -1;

        final int[] cells = new int[MOST_CELLS];
        int lane;
        private int length = NOTHING;

        boolean isNothing() {
            return length == NOTHING;
        }

        void begin(int newLane, int newLength) {
            lane = newLane;
            length = Math.min(newLength, MOST_CELLS);
            Arrays.fill(cells, 0);
        }

        void drop() {
            length = NOTHING;
        }

        boolean hasCell(int i) {
            return isBelow(i, length);
        }

        boolean hasCells(int i, int n) {
            return i >= 0 && n >= 0 && i <= length && n <= length - i;
        }

        int read(int i) {
            return hasCell(i) ? cells[i] : 0;
        }

        void write(int i, int v) {
            if (hasCell(i)) {
                cells[i] = cut(v);
            }
        }

        private int cut(int v) {
            switch (lane) {
                case 0:
                    return (byte) v;
                case 1:
                    return (short) v;
                default:
                    return v;
            }
        }

        /** The first fault of taking this as a row of a lane; nothing is no cast. */
        private int faultOfLane(int asLane) {
            if (isNothing()) {
                return NULL_FAULT;
            }
            return lane == asLane ? NO_FAULT : CAST_FAULT;
        }

        int faultOfCell(int asLane, int i) {
            int fault = faultOfLane(asLane);
            if (fault != NO_FAULT) {
                return fault;
            }
            return hasCell(i) ? NO_FAULT : INDEX_FAULT;
        }

        int faultOfCells(int asLane, int i, int n) {
            int fault = faultOfLane(asLane);
            if (fault != NO_FAULT) {
                return fault;
            }
            if (n < 0) {
                return SIZE_FAULT;
            }
            return hasCells(i, n) ? NO_FAULT : INDEX_FAULT;
        }
    }
}
