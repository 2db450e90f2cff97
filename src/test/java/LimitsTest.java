import java.util.Random;

/** Calls with any arguments in any state: none throws, and what is refused changes nothing. */
public final class LimitsTest {
    private static final int[] EDGES = {Integer.MIN_VALUE, -2, -1, 0, 1, 2, 3, 4, 5, 6, 7, 8, 9, 10, 11, 12, 13,
        15, 16, 23, 24, 25, 31, 127, 255, 1023, 4095, 4096, 199, 200, 201, 1000000, 1000001, Integer.MAX_VALUE};
    private final Random random = new Random(31);
    private IndependenceDesk desk;

    public static void main(String[] args) {
        LimitsTest test = new LimitsTest();
        for (int run = 0; run < 2000; run++) {
            test.desk = new IndependenceDesk();
            // Each step is five calls of the 512, with those that look at what has changed.
            for (int step = 0; step < 100; step++) {
                test.callOnce();
            }
        }
        twelveThingsAndAllRules();
        Due.done();
    }

    private int any() {
        return random.nextInt(3) > 0 ? random.nextInt(13) - 1 : EDGES[random.nextInt(EDGES.length)];
    }

    private void callOnce() {
        int rules = desk.count(1);
        int slots = desk.count(2);
        int choice = random.nextInt(40);
        long answer = choice < 10 ? prepare(choice) : choice < 20 ? make(choice) : ask(choice);
        boolean makes = choice >= 10 && choice < 20 && answer >= 0;
        boolean lays = choice < 10;
        if (choice != 9) {
            Due.is("rules after " + choice, desk.count(1), rules + (makes ? 1 : 0));
        }
        Due.is("slots after " + choice, lays || desk.count(2) == slots, true);
    }

    private long prepare(int choice) {
        int a = any();
        int b = any();
        switch (choice) {
            case 0:
                return desk.tear(a) ? 1 : 0;
            case 1:
                return desk.copy(a, any(), b, any(), any());
            case 2:
                return desk.weight(a, b);
            case 3:
            case 4:
                return desk.row(a, b, any());
            case 9:
                return random.nextInt(4) == 0 && desk.fresh(a) ? 1 : 0;
            default:
                return desk.write(a, b, random.nextInt(4) == 0 ? random.nextLong() : any());
        }
    }

    private int make(int choice) {
        int a = any();
        int b = any();
        switch (choice) {
            case 10:
                return desk.less(a, b);
            case 11:
                return desk.take(a, b);
            case 12:
                return desk.turn(a);
            case 13:
                return desk.join(a, b);
            default:
                return desk.rule(random.nextInt(7), random.nextInt(10));
        }
    }

    private long ask(int choice) {
        int a = any();
        int b = any();
        switch (choice) {
            case 20:
                return desk.look(a, b);
            case 21:
                return desk.allows(a, b);
            case 22:
                return desk.rank(a, b);
            case 23:
                return desk.span(a, b);
            case 24:
                return desk.ring(a, b);
            case 25:
                return desk.exchange(a, b, any());
            case 26:
                return desk.full(a, random.nextBoolean());
            case 27:
                return desk.both(a, b);
            case 28:
                return desk.split(a, b);
            case 29:
                return desk.most(a, b, any());
            case 30:
                return desk.three(a, b, any());
            case 31:
                return desk.fewest(a);
            case 32:
                return desk.dealt(a, b);
            case 33:
                return desk.crowd(a);
            case 34:
                return desk.pack(a);
            case 35:
                return desk.same(a, b);
            case 36:
                return desk.broken(a);
            case 37:
                return desk.read(a, b);
            default:
                return desk.count(a);
        }
    }

    /** The largest desk there can be, over and over: rules of an earlier fresh() leave no trace. */
    private static void twelveThingsAndAllRules() {
        IndependenceDesk desk = new IndependenceDesk();
        for (int round = 0; round < 8; round++) {
            int n = round % 2 == 0 ? 12 : 5;
            desk.fresh(n);
            Due.is("even", Due.rule(desk, 1, 3), 0);
            for (int i = 1; i < 24; i++) {
                Due.is("join", i < 13 ? desk.join(0, 0) : desk.turn(i - 12), i);
            }
            Due.is("one too many", desk.turn(0), -8);
            Due.is("rank of a join", desk.look(11, 1), Math.min(n, 6));
            Due.is("rank of what is turned", desk.look(23, 1), n - Math.min(n, 6));
            Due.is("same", desk.same(22, 23), 1);
        }
    }
}
