/** Counts the answers that are not the ones that are due, and tells them. */
final class Due {
    private final String name;
    private int asked;
    private int wrong;

    Due(String name) {
        this.name = name;
    }

    void is(String call, long got, long want) {
        asked++;
        if (got != want) {
            wrong++;
            System.out.println(name + ": " + call + " answered " + got + ", due is " + want);
        }
    }

    void end() {
        System.out.println(name + ": " + asked + " answers, " + wrong + " wrong");
        if (wrong != 0 || asked == 0) {
            System.exit(1);
        }
    }

    /** Writes codes to a sheet of a lane, as a new row. */
    static void write(PlatePeas x, int sheet, int lane, int... numbers) {
        x.sheet(sheet, lane, numbers.length);
        for (int i = 0; i < numbers.length; i++) {
            x.put(sheet, i, numbers[i]);
        }
    }

    static int lay(PlatePeas x, String text) {
        write(x, 3, 0, text.chars().toArray());
        return x.plate(3, 0, 0, text.length());
    }

    static PlatePeas laid(String text) {
        PlatePeas x = new PlatePeas();
        if (lay(x, text) < 0) {
            throw new IllegalStateException("no text: " + text);
        }
        return x;
    }
}
