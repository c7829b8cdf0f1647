import java.util.ArrayList;
import java.util.Arrays;
import java.util.List;
import java.util.regex.Matcher;
import java.util.regex.Pattern;

/**
 * The document once more, word by word and without a thought for speed, by other means than the program:
 * what random runs of calls are compared with.
 */
final class Model {
    static final long LOST = Long.MIN_VALUE;
    private static final int[][] STEPS = {{-1, 0}, {0, 1}, {1, 0}, {0, -1}};

    private int high, wide, law, trace, fault;
    private char[] squares = {};
    private List<Integer> starts = new ArrayList<>();
    private List<int[]> eaters = new ArrayList<>();
    private final List<int[]> pushes = new ArrayList<>();
    private final List<int[]> readings = new ArrayList<>();
    private final int[] lanes = new int[4];
    private final int[][] rows = new int[4][];

    /** Where peas are: a square, "had" as -100, "off" as -200. */
    private static final int HAD = -100, OFF = -200;

    long call(String name, int... a) {
        switch (name) {
            case "plate": return plate(a[0], a[1], a[2], a[3]);
            case "sign": return isSquare(a[0]) ? signNumber(a[0]) : -1;
            case "set": return set(a[0], a[1]);
            case "ofEater": return ofEater(a[0], a[1]);
            case "law": return law(a[0]);
            case "push": return push(a[0], a[1], a[2]);
            case "undo": return takeBack(pushes, a[0]);
            case "where": return isPea(a[0]) ? seen(all(law, -1)[a[0]]) : -1;
            case "peas": return peas(a[0]);
            case "would": return would(a[0], a[1], a[2], a[3]);
            case "fewest": return fewest(a[0], a[1]);
            case "most": return most(a[0]);
            case "wall": return wall(a[0], a[1], a[2]);
            case "row": return row(a[0], a[1], a[2], a[3]);
            case "odds": return odds(a[0], a[1], a[2]);
            case "reading": return reading(a[0], a[1]);
            case "back": return takeBack(readings, a[0]);
            case "last": return last(a[0]);
            case "laws": return laws();
            case "never": return never();
            case "sheet": return sheet(a[0], a[1], a[2]);
            case "lose": return lose(a[0]);
            case "put": return put(a[0], a[1], a[2]);
            case "cell": return cell(a[0], a[1], a[2]);
            case "copy": return copy(a[0], a[1], a[2], a[3], a[4]);
            case "tell": return tell(a[0]);
            case "polish": return polish(a[0]);
            case "as": return as(a[0], a[1]);
            case "trace": return trace;
            case "fault": return fault;
            case "many": return many(a[0]);
            default: throw new IllegalArgumentException(name);
        }
    }

    private boolean isSquare(int c) { return c >= 0 && c < squares.length; }
    private boolean isPea(int p) { return p >= 0 && p < starts.size(); }
    private boolean isEater(int e) { return e >= 0 && e < eaters.size(); }
    private boolean noPlate() { return squares.length == 0; }
    private int signNumber(int c) { return ".gm".indexOf(squares[c]); }
    private static int seen(int spot) { return spot < 0 ? -9 : spot; }
    private int failed(int f) { fault = f; return -10 - f; }

    // ---- texts

    private static boolean goesOn(String start) {
        if (start.chars().filter(c -> c == 'o').count() > 5) return false;
        for (int h = 2; h <= 5; h++) {
            for (int w = 2; w <= 6; w++) {
                Matcher m = textOf(h, w).matcher(start);
                if (m.matches() || m.hitEnd()) return true;
            }
        }
        return false;
    }

    private static Pattern textOf(int h, int w) {
        return Pattern.compile("p" + h + w + "(;[.gmo]{" + w + "}){" + h + "}(;[fks][1-4]){1,2}");
    }

    private static boolean isWhole(String text) {
        for (int h = 2; h <= 5; h++) {
            for (int w = 2; w <= 6; w++) {
                if (textOf(h, w).matcher(text).matches()) return true;
            }
        }
        return false;
    }

    private int cellsFault(int k, int lane, int i, int n) {
        if (rows[k] != null && lanes[k] != lane) return 2;
        if (rows[k] == null) return 1;
        if (n < 0) return 4;
        if (i < 0 || i > rows[k].length || (long) i + n > rows[k].length) return 3;
        return 0;
    }

    private int plate(int k, int lane, int i, int n) {
        fault = 0;
        if (k < 0 || k > 3) return -1;
        if (lane < 0 || lane > 2) return -2;
        int f = cellsFault(k, lane, i, n);
        if (f != 0) return failed(f);
        StringBuilder text = new StringBuilder();
        for (int x = 0; x < n; x++) {
            int v = rows[k][i + x];
            text.append(v >= 0 && v < 128 ? (char) v : '?');
            if (!goesOn(text.toString())) return -100 - x;
        }
        if (!isWhole(text.toString())) return -100 - n;
        String[] parts = text.toString().split(";");
        high = parts[0].charAt(1) - '0';
        wide = parts[0].charAt(2) - '0';
        String told = String.join("", Arrays.copyOfRange(parts, 1, 1 + high));
        starts = new ArrayList<>();
        for (int c = 0; c < told.length(); c++) if (told.charAt(c) == 'o') starts.add(c);
        squares = told.replace('o', '.').toCharArray();
        eaters = new ArrayList<>();
        for (int x = 1 + high; x < parts.length; x++) {
            eaters.add(new int[] {"fks".indexOf(parts[x].charAt(0)), parts[x].charAt(1) - '0'});
        }
        pushes.clear();
        readings.clear();
        law = 0;
        return starts.size();
    }

    private int set(int c, int sign) {
        if (!isSquare(c)) return -1;
        if (sign < 0 || sign > 2) return -2;
        if (sign == 2 && starts.contains(c)) return -3;
        int was = signNumber(c);
        squares[c] = ".gm".charAt(sign);
        return was;
    }

    private int force(int e) {
        int[] eater = eaters.get(e);
        return eater[0] == 0 ? eater[1] : eater[0] == 1 ? eater[1] + 1 : 2 * (eater[1] + 1);
    }

    private int ofEater(int e, int what) {
        if (!isEater(e)) return -1;
        if (what < 0 || what > 2) return -2;
        return what == 2 ? force(e) : eaters.get(e)[what];
    }

    private int law(int v) {
        if (v < 0 || v > 2) return -2;
        if (noPlate()) return -3;
        int was = law;
        law = v;
        return was;
    }

    // ---- pushes

    private int next(int c, int d) {
        int y = c / wide + STEPS[d][0], x = c % wide + STEPS[d][1];
        return y >= 0 && y < high && x >= 0 && x < wide ? y * wide + x : -1;
    }

    private static int peaOn(int[] spots, int c) {
        for (int p = 0; p < spots.length; p++) if (spots[p] == c) return p;
        return -1;
    }

    private boolean held(int[] spots, int pea, int d, int byLaw) {
        if (spots[pea] < 0) return false;
        int c = next(spots[pea], d);
        if (c < 0) return byLaw == 2;
        if (squares[c] == 'm') return true;
        int other = peaOn(spots, c);
        return other >= 0 && held(spots, other, d, byLaw);
    }

    private void rolls(int[] spots, int pea, int d, int force, int byLaw) {
        int left = force, way = d;
        while (left > 0) {
            int c = next(spots[pea], way);
            if (c < 0) {
                if (byLaw == 2) return;
                if (byLaw == 1) {
                    spots[pea] = OFF;
                    return;
                }
                way = way < 2 ? way + 2 : way - 2;
                left--;
                continue;
            }
            if (squares[c] == 'm') return;
            int other = peaOn(spots, c);
            if (other >= 0) {
                rolls(spots, other, way, left - 1, byLaw);
                return;
            }
            spots[pea] = c;
            left--;
            if (squares[c] == 'g') return;
        }
    }

    private int[] after(int[] spots, int e, int pea, int d, int byLaw) {
        int[] then = spots.clone();
        if (then[pea] < 0) return then;
        if (held(then, pea, d, byLaw)) then[pea] = HAD;
        else rolls(then, pea, d, force(e), byLaw);
        return then;
    }

    private int[] all(int byLaw, int without) {
        int[] spots = starts.stream().mapToInt(Integer::intValue).toArray();
        for (int k = 0; k < pushes.size(); k++) {
            int[] p = pushes.get(k);
            if (k != without) spots = after(spots, p[0], p[1], p[2], byLaw);
        }
        return spots;
    }

    private int push(int e, int pea, int d) {
        if (!isEater(e) || !isPea(pea)) return -1;
        if (d < 0 || d > 3) return -2;
        if (pushes.size() == 30) return -4;
        pushes.add(new int[] {e, pea, d});
        return pushes.size() - 1;
    }

    private static int takeBack(List<int[]> list, int k) {
        if (k < 0 || k > list.size()) return -2;
        for (int x = 0; x < k; x++) list.remove(list.size() - 1);
        return list.size();
    }

    private static int setOf(int[] spots, int what) {
        int set = 0;
        for (int p = 0; p < spots.length; p++) if (spots[p] == what) set |= 1 << p;
        return set;
    }

    private int peas(int what) {
        if (what < 0 || what > 5) return -2;
        if (noPlate()) return -3;
        int[] spots = all(law, -1);
        if (what < 2) return setOf(spots, what == 0 ? HAD : OFF);
        int set = 0;
        for (int p = 0; p < spots.length; p++) if (held(spots, p, what - 2, law)) set |= 1 << p;
        return set;
    }

    private int would(int e, int pea, int d, int what) {
        if (!isEater(e) || !isPea(pea)) return -1;
        if (d < 0 || d > 3 || what < 0 || what > 2) return -2;
        int[] spots = all(law, -1);
        if (spots[pea] < 0) return -3;
        int[] then = after(spots, e, pea, d, law);
        if (what == 0) return seen(then[pea]);
        if (what == 1) return setOf(then, HAD);
        int set = 0;
        for (int p = 0; p < spots.length; p++) if (then[p] != spots[p]) set |= 1 << p;
        return set;
    }

    // ---- searches

    private List<Integer> firstRow(int[] spots, int pea, int length) {
        if (length == 0) return spots[pea] == HAD ? new ArrayList<>() : null;
        for (int e = 0; e < eaters.size(); e++) {
            for (int p = 0; p < spots.length; p++) {
                for (int d = 0; d < 4; d++) {
                    if (spots[p] < 0) continue;
                    List<Integer> rest = firstRow(after(spots, e, p, d, law), pea, length - 1);
                    if (rest != null) {
                        rest.add(0, 100 * e + 10 * p + d);
                        return rest;
                    }
                }
            }
        }
        return null;
    }

    private int fewest(int pea, int q) {
        if (!isPea(pea) || q < -1) return -1;
        for (int length = 0; length <= 3; length++) {
            List<Integer> found = firstRow(all(law, -1), pea, length);
            if (found != null) return q == -1 ? length : q < length ? found.get(q) : -9;
        }
        return -9;
    }

    private int mostOf(int[] spots, int n) {
        int best = -1;
        for (int e = 0; n > 0 && e < eaters.size(); e++) {
            for (int p = 0; p < spots.length; p++) {
                for (int d = 0; spots[p] >= 0 && d < 4; d++) {
                    best = Math.max(best, mostOf(after(spots, e, p, d, law), n - 1));
                }
            }
        }
        return best >= 0 ? best : Integer.bitCount(setOf(spots, HAD));
    }

    private int most(int n) {
        if (n < 0 || n > 3) return -2;
        return noPlate() ? -3 : mostOf(all(law, -1), n);
    }

    private int wall(int e, int pea, int d) {
        if (!isEater(e) || !isPea(pea)) return -1;
        if (d < 0 || d > 3) return -2;
        int[] spots = all(law, -1);
        if (spots[pea] < 0) return -3;
        if (after(spots, e, pea, d, law)[pea] == HAD) return -9;
        for (int c = 0; c < squares.length; c++) {
            if (squares[c] != '.' || peaOn(spots, c) >= 0) continue;
            squares[c] = 'm';
            boolean has = after(spots, e, pea, d, law)[pea] == HAD;
            squares[c] = '.';
            if (has) return c;
        }
        return -9;
    }

    private int row(int k, int lane, int i, int n) {
        fault = 0;
        if (k < 0 || k > 3) return -1;
        if (lane < 0 || lane > 2) return -2;
        if (noPlate()) return -3;
        int f = cellsFault(k, lane, i, n);
        if (f != 0) return failed(f);
        if (n > 20) return -2;
        List<Integer> codes = new ArrayList<>();
        for (int e = 0; e < eaters.size(); e++) {
            for (int p = 0; p < starts.size(); p++) {
                for (int d = 0; d < 4; d++) codes.add(100 * e + 10 * p + d);
            }
        }
        for (int x = 0; x < n; x++) if (!codes.contains(rows[k][i + x])) return -1;
        int[] spots = all(law, -1);
        for (int x = 0; x < n; x++) {
            int code = rows[k][i + x];
            if (spots[code % 100 / 10] < 0) return -100 - x;
            spots = after(spots, code / 100, code % 100 / 10, code % 10, law);
        }
        return Integer.bitCount(setOf(spots, HAD));
    }

    // ---- what was seen

    private long odds(int e, int pea, int which) {
        if (!isEater(e) || !isPea(pea) || which < 0 || which > 1) return LOST;
        int[] spots = all(law, -1);
        if (spots[pea] < 0) return LOST;
        int upper = 0, lower = 4;
        for (int d = 0; d < 4; d++) if (after(spots, e, pea, d, law)[pea] == HAD) upper++;
        for (int by = 4; by > 1; by--) {
            if (upper % by == 0 && lower % by == 0) {
                upper /= by;
                lower /= by;
            }
        }
        return which == 0 ? upper : lower;
    }

    private int reading(int pea, int c) {
        if (!isPea(pea) || c != -9 && !isSquare(c)) return -1;
        if (readings.size() == 8) return -4;
        readings.add(new int[] {pea, c});
        return readings.size() - 1;
    }

    private boolean so(int[] spots) {
        for (int[] r : readings) if (seen(spots[r[0]]) != r[1]) return false;
        return true;
    }

    private int last(int k) {
        if (k < -1) return -1;
        if (noPlate()) return -3;
        List<Integer> found = new ArrayList<>();
        for (int e = 0; e < eaters.size(); e++) {
            for (int p = 0; p < starts.size(); p++) {
                for (int d = 0; d < 4; d++) {
                    if (so(after(all(law, -1), e, p, d, law))) found.add(100 * e + 10 * p + d);
                }
            }
        }
        return k == -1 ? found.size() : k < found.size() ? found.get(k) : -9;
    }

    private int laws() {
        if (noPlate()) return -3;
        int set = 0;
        for (int v = 0; v < 3; v++) if (so(all(v, -1))) set += 1 << v;
        return set;
    }

    private int never() {
        if (noPlate()) return -3;
        int set = 0;
        for (int k = 0; k < pushes.size(); k++) if (so(all(law, k))) set += 1 << k;
        return set;
    }

    // ---- sheets, parts

    private int sheet(int k, int lane, int n) {
        fault = 0;
        if (k < 0 || k > 3) return -1;
        if (lane < 0 || lane > 2 || n > 60) return -2;
        if (n < 0) return failed(4);
        lanes[k] = lane;
        rows[k] = new int[n];
        return 1;
    }

    private int lose(int k) {
        if (k < 0 || k > 3) return -1;
        int had = rows[k] == null ? 0 : 1;
        rows[k] = null;
        return had;
    }

    private int put(int k, int i, int v) {
        fault = 0;
        if (k < 0 || k > 3) return -1;
        if (rows[k] == null) return failed(1);
        if (i < 0 || i >= rows[k].length) return failed(3);
        rows[k][i] = lanes[k] == 0 ? (byte) v : lanes[k] == 1 ? (short) v : v;
        return 1;
    }

    private long cell(int k, int i, int lane) {
        fault = 0;
        if (k < 0 || k > 3 || lane < 0 || lane > 2) return LOST;
        if (rows[k] == null) fault = 1;
        else if (lanes[k] != lane) fault = 2;
        else if (i < 0 || i >= rows[k].length) fault = 3;
        return fault != 0 ? LOST : rows[k][i];
    }

    private int copy(int k, int i, int o, int j, int n) {
        fault = 0;
        if (k < 0 || k > 3 || o < 0 || o > 3) return -1;
        if (rows[k] == null || rows[o] == null) return failed(1);
        if (lanes[k] != lanes[o]) return failed(2);
        if (i < 0 || j < 0 || n < 0 || (long) i + n > rows[k].length || (long) j + n > rows[o].length) return failed(3);
        int[] were = rows[k].clone();
        for (int x = 0; x < n; x++) rows[o][j + x] = were[i + x];
        return n;
    }

    private void leave(int... numbers) {
        for (int number : numbers) trace = 31 * trace + number;
    }

    private int tell(int e) {
        if (!isEater(e)) return -1;
        int s = eaters.get(e)[1];
        switch (eaters.get(e)[0]) {
            case 0:
                leave(1);
                return s;
            case 1:
                leave(2, 1);
                return s + 100;
            default:
                leave(3, 2, 1, 1);
                return s + 100 + s;
        }
    }

    private int polish(int e) {
        if (!isEater(e)) return -1;
        boolean spoon = eaters.get(e)[0] == 2;
        leave(spoon ? 5 : 4);
        return spoon ? 30 : e;
    }

    private int as(int e, int kind) {
        fault = 0;
        if (!isEater(e)) return -1;
        if (kind < 0 || kind > 2) return -2;
        return eaters.get(e)[0] >= kind ? 1 : failed(2);
    }

    private int many(int what) {
        int[] all = {squares.length, wide, starts.size(), eaters.size(), pushes.size(), readings.size(), law};
        return what < 0 || what >= all.length ? -2 : all[what];
    }
}
