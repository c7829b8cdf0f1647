import java.util.Arrays;

/** Calls by name, so that a test tells the call that it makes. */
final class Calls {
    private Calls() {
    }

    static String told(String name, int... a) {
        return name + Arrays.toString(a).replace('[', '(').replace(']', ')');
    }

    static long of(PlatePeas x, String name, int... a) {
        switch (name) {
            case "plate": return x.plate(a[0], a[1], a[2], a[3]);
            case "sign": return x.sign(a[0]);
            case "set": return x.set(a[0], a[1]);
            case "ofEater": return x.ofEater(a[0], a[1]);
            case "law": return x.law(a[0]);
            case "push": return x.push(a[0], a[1], a[2]);
            case "undo": return x.undo(a[0]);
            case "where": return x.where(a[0]);
            case "peas": return x.peas(a[0]);
            case "would": return x.would(a[0], a[1], a[2], a[3]);
            case "fewest": return x.fewest(a[0], a[1]);
            case "most": return x.most(a[0]);
            case "wall": return x.wall(a[0], a[1], a[2]);
            case "row": return x.row(a[0], a[1], a[2], a[3]);
            case "odds": return x.odds(a[0], a[1], a[2]);
            case "reading": return x.reading(a[0], a[1]);
            case "back": return x.back(a[0]);
            case "last": return x.last(a[0]);
            case "laws": return x.laws();
            case "never": return x.never();
            case "sheet": return x.sheet(a[0], a[1], a[2]);
            case "lose": return x.lose(a[0]);
            case "put": return x.put(a[0], a[1], a[2]);
            case "cell": return x.cell(a[0], a[1], a[2]);
            case "copy": return x.copy(a[0], a[1], a[2], a[3], a[4]);
            case "tell": return x.tell(a[0]);
            case "polish": return x.polish(a[0]);
            case "as": return x.as(a[0], a[1]);
            case "trace": return x.trace();
            case "fault": return x.fault();
            case "many": return x.many(a[0]);
            default: throw new IllegalArgumentException(name);
        }
    }
}
