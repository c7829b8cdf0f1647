import java.util.ArrayList;
import java.util.Arrays;
import java.util.Collections;
import java.util.List;
import java.util.Random;

/** Random runs of 512 calls, right and wrong ones, each answer compared with the model's. */
public final class RandomRunsTest {
    private static final Due DUE = new Due("RandomRunsTest");
    private static final String[] NAMES = {"plate", "sign", "set", "ofEater", "law", "push", "undo", "where", "peas",
        "would", "fewest", "most", "wall", "row", "odds", "reading", "back", "last", "laws", "never", "sheet", "lose",
        "put", "cell", "copy", "tell", "polish", "as", "trace", "fault", "many"};
    /** How many parameters each has. */
    private static final int[] COUNTS = {4, 1, 2, 2, 1, 3, 1, 1, 1, 4, 2, 1, 3, 4, 3, 2, 1, 1, 0, 0, 3, 1, 3, 3, 5, 1,
        1, 2, 0, 0, 1};
    private static final int[] FAR = {-1, -2, -9, -10, 59, 60, 61, 1000, Integer.MAX_VALUE, Integer.MIN_VALUE};

    /** For so many an object is used: a run has all of them, and no more. */
    private static final int CALLS = 512;

    private final Random random;
    private final PlatePeas real = new PlatePeas();
    private final Model model = new Model();
    private final int run;
    private int asked;

    private RandomRunsTest(int run) {
        this.run = run;
        this.random = new Random(run);
    }

    public static void main(String[] args) {
        for (int run = 0; run < 1500; run++) {
            new RandomRunsTest(run).go();
        }
        DUE.end();
    }

    private void go() {
        if (random.nextInt(8) != 0) {
            lay();
        }
        int busy = 150 + random.nextInt(CALLS - 150);
        while (asked < busy) {
            int choice = random.nextInt(100);
            if (choice < 15) {
                same("push", eater(), pea(), random.nextInt(4));
            } else if (choice < 30) {
                seenOrCode();
            } else if (choice == 30) {
                lay();
            } else {
                any();
            }
        }
        askAll();
        DUE.is("calls of run " + run, asked, CALLS);
    }

    private void seenOrCode() {
        switch (random.nextInt(4)) {
            case 0:
                int pea = pea();
                same("reading", pea, (int) model.call("where", pea));
                break;
            case 1:
                same("set", random.nextInt(20), random.nextInt(3));
                break;
            case 2:
                codes();
                break;
            default:
                same("law", random.nextInt(3));
        }
    }

    private void codes() {
        int n = random.nextInt(8);
        same("sheet", 2, 1, 22);
        for (int i = 0; i < n; i++) {
            same("put", 2, i, 100 * eater() + 10 * pea() + random.nextInt(4));
        }
        same("row", 2, 1, 0, n);
        same("row", 2, 1, random.nextInt(3), random.nextInt(22));
    }

    private void any() {
        int which = random.nextInt(NAMES.length);
        String name = NAMES[which];
        // The model tries every row of three pushes.
        boolean dear = name.equals("fewest") || name.equals("most");
        if (dear && many(2) * many(3) > 4 && random.nextInt(8) != 0) {
            return;
        }
        int[] numbers = new int[COUNTS[which]];
        for (int i = 0; i < numbers.length; i++) {
            numbers[i] = number();
        }
        same(name, numbers);
    }

    private int number() {
        int choice = random.nextInt(20);
        if (choice == 0) {
            return FAR[random.nextInt(FAR.length)];
        }
        return choice < 14 ? random.nextInt(3) : choice < 18 ? random.nextInt(7) : random.nextInt(40) - 3;
    }

    private int eater() {
        return random.nextInt(Math.max(1, many(3)));
    }

    private int pea() {
        return random.nextInt(Math.max(1, many(2)));
    }

    private void lay() {
        StringBuilder text = new StringBuilder("p");
        int high = 2 + random.nextInt(4);
        int wide = 2 + random.nextInt(5);
        text.append(high).append(wide);
        String signs = random.nextBoolean() ? ".....gmo" : "....go";
        for (int y = 0; y < high; y++) {
            text.append(';');
            for (int x = 0; x < wide; x++) {
                text.append(signs.charAt(random.nextInt(signs.length())));
            }
        }
        for (int e = random.nextInt(2); e >= 0; e--) {
            text.append(';').append("fks".charAt(random.nextInt(3))).append(1 + random.nextInt(4));
        }
        spoil(text);
        int lane = random.nextInt(3);
        same("sheet", 1, lane, text.length());
        for (int i = 0; i < text.length(); i++) {
            same("put", 1, i, text.charAt(i));
        }
        same("plate", 1, lane, 0, text.length());
    }

    private void spoil(StringBuilder text) {
        if (random.nextInt(6) == 0) {
            text.setCharAt(random.nextInt(text.length()), "p;.gmofks12345678".charAt(random.nextInt(17)));
        }
        if (random.nextInt(10) == 0) {
            text.setLength(random.nextInt(text.length()));
        }
        if (random.nextInt(10) == 0) {
            text.append("p;.gmofks12345678".charAt(random.nextInt(17)));
        }
    }

    /** What can be asked of an object, in any order, until it has had all its calls. */
    private void askAll() {
        List<String> questions = new ArrayList<>();
        for (int what = -1; what < 8; what++) {
            questions.addAll(List.of("many " + what, "peas " + what, "where " + what, "last " + what, "most " + what));
        }
        for (int c = 0; c < 30; c++) {
            questions.add("sign " + c);
        }
        for (int i = 0; i < 60; i++) {
            questions.addAll(List.of("cell 0 " + i + " 0", "cell 1 " + i + " 1", "cell 2 " + i + " 1", "cell 3 " + i + " 2"));
        }
        for (int x = 0; x < 3 * 2 * 5 * 4; x++) {
            String push = " " + x / 20 % 2 + " " + x / 4 % 5 + " " + x % 4;
            questions.addAll(List.of("wall" + push, "would" + push + " " + x / 40));
        }
        questions.addAll(List.of("laws", "never", "trace", "fault"));
        Collections.shuffle(questions, random);
        for (int k = 0; asked < CALLS; k++) {
            String[] parts = questions.get(k % questions.size()).split(" ");
            same(parts[0], Arrays.stream(parts).skip(1).mapToInt(Integer::parseInt).toArray());
        }
    }

    private int many(int what) {
        return (int) model.call("many", what);
    }

    private void same(String name, int... a) {
        if (asked == CALLS) {
            return;
        }
        asked++;
        long want = model.call(name, a);
        DUE.is("run " + run + ": " + Calls.told(name, a), Calls.of(real, name, a), want);
    }
}
