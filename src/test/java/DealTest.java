/** Promises 26 to 29: fewest, dealt, crowd, pack. */
public final class DealTest {
    public static void main(String[] args) {
        dealsAhead();
        even();
        refusals();
        pack();
        twelveThings();
        Due.done();
    }

    private static void isDealt(IndependenceDesk desk, int rule, int fewest, int crowd, int... deal) {
        Due.is("fewest", desk.fewest(rule), fewest);
        Due.is("crowd", desk.crowd(rule), crowd);
        for (int i = 0; i < deal.length; i++) {
            Due.is("dealt " + i, desk.dealt(rule, i), deal[i]);
        }
        Due.is("no thing behind the last", desk.dealt(rule, deal.length), -1);
    }

    /** Where the first heap that takes a thing is not the one that it must go to. */
    private static void dealsAhead() {
        IndependenceDesk desk = new IndependenceDesk();
        desk.fresh(6);
        // All six edges between four ends, the first three of them a star.
        Due.is("edges", Due.rule(desk, 4, 0, 1, 0, 2, 0, 3, 1, 2, 1, 3, 2, 3), 0);
        isDealt(desk, 0, 2, 0b001011, 0, 0, 1, 1, 0, 1);
        desk.fresh(4);
        Due.is("two edges between each", Due.rule(desk, 4, 0, 1, 1, 2, 0, 1, 1, 2), 0);
        isDealt(desk, 0, 2, 0b0101, 0, 0, 1, 1);
    }

    private static void even() {
        IndependenceDesk desk = new IndependenceDesk();
        desk.fresh(7);
        Due.is("k 1", Due.rule(desk, 1, 1), 0);
        Due.is("k 3", Due.rule(desk, 1, 3), 1);
        Due.is("k 7", Due.rule(desk, 1, 7), 2);
        isDealt(desk, 0, 7, 127, 0, 1, 2, 3, 4, 5, 6);
        isDealt(desk, 1, 3, 127, 0, 0, 0, 1, 1, 1, 2);
        isDealt(desk, 2, 1, 1, 0, 0, 0, 0, 0, 0, 0);
        desk.fresh(1);
        Due.is("one thing", Due.rule(desk, 1, 1), 0);
        isDealt(desk, 0, 1, 1, 0);
    }

    private static void refusals() {
        IndependenceDesk desk = new IndependenceDesk();
        desk.fresh(3);
        Due.is("the last is in no set", Due.rule(desk, 2, 0, 0, 1, 1, 0), 0);
        Due.is("fewest", desk.fewest(0), -2);
        Due.is("dealt", desk.dealt(0, 0), -2);
        Due.is("crowd", desk.crowd(0), -2);
        Due.is("pack", desk.pack(0), 2);
        Due.is("no thing, ahead of -2", desk.dealt(0, 3), -1);
        Due.is("of rank 0", Due.rule(desk, 1, 0), 1);
        Due.is("pack of rank 0", desk.pack(1), -2);
        int[] rules = {2, -1, Integer.MIN_VALUE, Integer.MAX_VALUE};
        for (int no : rules) {
            Due.is("fewest " + no, desk.fewest(no), -1);
            Due.is("dealt " + no, desk.dealt(no, 0), -1);
            Due.is("crowd " + no, desk.crowd(no), -1);
            Due.is("pack " + no, desk.pack(no), -1);
        }
        for (int thing : Due.WRONG_NUMBERS) {
            Due.is("dealt thing " + thing, desk.dealt(0, thing), -1);
        }
    }

    private static void pack() {
        IndependenceDesk desk = new IndependenceDesk();
        desk.fresh(6);
        Due.is("edges between four ends", Due.rule(desk, 4, 0, 1, 0, 2, 0, 3, 1, 2, 1, 3, 2, 3), 0);
        Due.is("two trees", desk.pack(0), 2);
        Due.is("k 4", Due.rule(desk, 1, 4), 1);
        Due.is("one of four", desk.pack(1), 1);
        Due.is("k 1", Due.rule(desk, 1, 1), 2);
        Due.is("six of one", desk.pack(2), 6);
        Due.is("a thing that each has", Due.rule(desk, 2, 0, 1, 1, 1, 1, 1, 1, 1), 3);
        Due.is("packs once", desk.pack(3), 1);
        Due.is("a full one of all", desk.pack(Due.rule(desk, 1, 6)), 1);
    }

    private static void twelveThings() {
        IndependenceDesk desk = new IndependenceDesk();
        desk.fresh(12);
        long[] numbers = {3, 7, 2, 127, 3, 4095, 5};
        Due.is("nested", Due.rule(desk, 3, numbers), 0);
        // Things 0, 1, 2 two a heap; 0 to 6 three a heap; five a heap of all.
        isDealt(desk, 0, 3, 127, 0, 0, 1, 0, 1, 1, 2, 0, 0, 1, 1, 2);
        Due.is("pack", desk.pack(0), 2);
        Naive naive = Naive.of(12, 3, numbers);
        int[] deal = naive.deal();
        for (int i = 0; i < 12; i++) {
            Due.is("dealt " + i + " by search", desk.dealt(0, i), deal[i]);
        }
    }
}
