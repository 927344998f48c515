/**
 * What the tests share; a test extends it. The constants are the document's own numbers, not the
 * class's, so that a wrong constant of the class is found.
 */
abstract class Checks {
    static final int BAD = -1, STATE = -2, FULL = -3, NONE = -9;
    static final int MIN = Integer.MIN_VALUE, MAX = Integer.MAX_VALUE;
    private static int wrong = 0;

    static void due(String what, int got, int want) {
        if (got != want) {
            report(what + " answered " + got + ", due is " + want);
        }
    }

    static void same(String what, String got, String want) {
        if (!got.equals(want)) {
            report(what + ": is " + got + ", due is " + want);
        }
    }

    static void report(String fault) {
        wrong++;
        System.out.println(fault);
    }

    /** The last call of a test's main. */
    static void finish(String good) {
        System.out.println(wrong == 0 ? good : wrong + " answers are not as due");
        if (wrong != 0) {
            System.exit(1);
        }
    }

    static void type(TenseLines x, String text) {
        for (int i = 0; i < text.length(); i++) {
            x.type(text.charAt(i));
        }
    }

    static int read(TenseLines x, String text) {
        x.clear();
        type(x, text);
        return x.reads();
    }

    static TenseLines told(String text) {
        TenseLines x = new TenseLines();
        int items = read(x, text);
        if (items < 0) {
            report("'" + text + "' was not read: " + items);
        }
        return x;
    }

    static String blanks(int n) {
        return " ".repeat(n);
    }

    /** All STATEMENTS, as the face tells them. */
    static String shape(TenseLines x) {
        StringBuilder all = new StringBuilder();
        for (int k = 0; k < x.count(2); k++) {
            int c = x.statement(k, 0);
            all.append(c).append(':');
            if (c == NONE) {
                all.append(x.statement(k, 1)).append(',').append(x.statement(k, 2)).append(',').append(x.statement(k, 3));
            } else {
                all.append(x.clause(c, 0)).append(',').append(x.clause(c, 1)).append(',').append(x.clause(c, 2));
            }
            all.append(' ');
        }
        return all.toString();
    }

    static String counts(TenseLines x) {
        StringBuilder all = new StringBuilder();
        for (int what = 0; what <= 5; what++) {
            all.append(x.count(what)).append(' ');
        }
        return all.toString();
    }

    /**
     * Numbers that are not low .. high: those just beside, the least and the greatest int, and those
     * that a shift, a doubling or a narrower type would wrap back into it.
     */
    static int[] outside(int low, int high) {
        int[] beside = {low - 1, high + 1, low - 2, high + 2, MIN, MIN + 1, MAX, MAX - 1};
        int[] steps = {32, 64, 256, 65536, 1 << 30, 1 << 31};
        int[] all = new int[beside.length + 4 * steps.length];
        int n = 0;
        for (int number : beside) {
            n = add(all, n, number, low, high);
        }
        for (int step : steps) {
            n = add(all, n, low + step, low, high);
            n = add(all, n, low - step, low, high);
            n = add(all, n, high + step, low, high);
            n = add(all, n, high - step, low, high);
        }
        return java.util.Arrays.copyOf(all, n);
    }

    private static int add(int[] all, int n, int number, int low, int high) {
        if (number >= low && number <= high) {
            return n;
        }
        all[n] = number;
        return n + 1;
    }
}
