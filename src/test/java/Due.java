import java.util.function.IntToLongFunction;

/** Compares answers with what is due and counts the wrong ones. */
final class Due {
    static final int[] WRONG_NUMBERS = {-1, -2, Integer.MIN_VALUE, Integer.MAX_VALUE};
    private static int wrong = 0;
    private static int asked = 0;

    private Due() {
    }

    static void is(String what, long got, long want) {
        asked++;
        if (got != want) {
            wrong++;
            if (wrong <= 50) {
                System.out.println(what + " answered " + got + ", due is " + want);
            }
        }
    }

    static void is(String what, boolean got, boolean want) {
        is(what, got ? 1 : 0, want ? 1 : 0);
    }

    /** A number from low to high is not refused by this answer, any other one is. */
    static void justWithin(String what, int low, int high, long refusal, IntToLongFunction call) {
        int[] inside = {low, high};
        int[] outside = {low - 1, high + 1, Integer.MIN_VALUE, Integer.MAX_VALUE};
        for (int number : inside) {
            is(what + ": " + number + " is not refused", call.applyAsLong(number) != refusal, true);
        }
        for (int number : outside) {
            is(what + ": " + number, call.applyAsLong(number), refusal);
        }
    }

    /** A new desk of n things. */
    static IndependenceDesk desk(int n) {
        IndependenceDesk desk = new IndependenceDesk();
        is("fresh " + n, desk.fresh(n), true);
        return desk;
    }

    /** A new desk of n things whose rules 0, 1 and so on allow all sets of at most so many. */
    static IndependenceDesk even(int n, int... ks) {
        IndependenceDesk desk = desk(n);
        for (int i = 0; i < ks.length; i++) {
            is("even", rule(desk, 1, ks[i]), i);
        }
        return desk;
    }

    /** Ends the test: with exit code 1 if any answer was wrong. */
    static void done() {
        System.out.println(asked + " answers, " + wrong + " wrong");
        if (wrong != 0 || asked == 0) {
            System.exit(1);
        }
    }

    /** Lays a row of these numbers into a slot. */
    static void lay(IndependenceDesk desk, int slot, int width, long... numbers) {
        is("row", desk.row(slot, width, numbers.length), 0);
        for (int i = 0; i < numbers.length; i++) {
            is("write", desk.write(slot, i, numbers[i]), 0);
        }
    }

    /** Makes a rule of these numbers, by way of slot 9. */
    static int rule(IndependenceDesk desk, int kind, long... numbers) {
        lay(desk, 9, 3, numbers);
        return desk.rule(kind, 9);
    }
}
