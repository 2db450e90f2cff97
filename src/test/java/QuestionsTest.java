/** Promises 16 to 21 and 30: allows, rank, span, ring, exchange, full, same. */
public final class QuestionsTest {
    public static void main(String[] args) {
        oneSet();
        exchange();
        full();
        same();
        noSuch();
        Due.done();
    }

    /**
     * Rule 0: edges 0-1, 1-2, 2-0, 2-3, 3-3 (rings 7 and 16). Rule 1: sets of one thing.
     */
    private static IndependenceDesk desk() {
        IndependenceDesk desk = new IndependenceDesk();
        desk.fresh(5);
        Due.is("edges", Due.rule(desk, 4, 0, 1, 1, 2, 2, 0, 2, 3, 3, 3), 0);
        Due.is("one", Due.rule(desk, 1, 1), 1);
        return desk;
    }

    private static void oneSet() {
        IndependenceDesk desk = desk();
        Due.is("allows the empty set", desk.allows(0, 0), 1);
        Due.is("allows", desk.allows(0, 0b01011), 1);
        Due.is("does not allow a ring", desk.allows(0, 0b00111), 0);
        Due.is("rank of the empty set", desk.rank(0, 0), 0);
        Due.is("rank of a ring", desk.rank(0, 0b00111), 2);
        Due.is("rank of a ring of one", desk.rank(0, 0b10000), 0);
        Due.is("rank of all", desk.rank(0, 31), 3);
        Due.is("span of the empty set", desk.span(0, 0), 0b10000);
        Due.is("span of two of a ring", desk.span(0, 0b00101), 0b10111);
        Due.is("span of all", desk.span(0, 31), 31);
        Due.is("span of one", desk.span(0, 0b01000), 0b11000);
        Due.is("ring of an allowed set", desk.ring(0, 0b01011), 0);
        Due.is("ring of all", desk.ring(0, 31), 0b00111);
        Due.is("ring of one thing", desk.ring(0, 0b11011), 0b10000);
        Due.is("ring of the least things", desk.ring(1, 0b11010), 0b01010);
    }

    private static void exchange() {
        IndependenceDesk desk = desk();
        Due.is("those of the ring may go", desk.exchange(0, 0b01011, 2), 0b00011);
        Due.is("it may come without", desk.exchange(0, 0b00011, 3), 0);
        Due.is("it may never come", desk.exchange(0, 0b01011, 4), 0);
        Due.is("has the thing", desk.exchange(0, 0b01011, 0), -1);
        Due.is("not allowed", desk.exchange(0, 0b00111, 3), -1);
        Due.is("no thing 5", desk.exchange(0, 0, 5), -1);
        Due.is("to the empty set", desk.exchange(1, 0, 4), 0);
        for (int wrong : Due.WRONG_NUMBERS) {
            Due.is("thing " + wrong, desk.exchange(0, 0, wrong), -1);
            Due.is("set " + wrong, desk.exchange(0, wrong, 0), -1);
            Due.is("rule " + wrong, desk.exchange(wrong, 0, 0), -1);
        }
        Due.is("no set 32", desk.exchange(0, 32, 0), -1);
        Due.is("no rule 2", desk.exchange(2, 0, 0), -1);
    }

    private static void full() {
        IndependenceDesk desk = desk();
        Due.is("all alike: the first ones", desk.full(0, false), 0b01011);
        Due.is("all alike: the first ones", desk.full(0, true), 0b01011);
        desk.weight(2, 2);
        Due.is("the heavier one, then the first", desk.full(0, false), 0b01101);
        Due.is("the lighter ones", desk.full(0, true), 0b01011);
        desk.weight(0, 2);
        desk.weight(1, 0);
        desk.weight(4, 1000000);
        Due.is("heaviest", desk.full(0, false), 0b01101);
        Due.is("lightest, the first of two alike", desk.full(0, true), 0b01011);
        for (int i = 0; i < 5; i++) {
            desk.weight(i, 0);
        }
        Due.is("a full set though it weighs nothing", desk.full(0, false), 0b01011);
        Due.is("of rank 0", desk.full(Due.rule(desk, 1, 0), false), 0);
        Due.is("no rule 3", desk.full(3, true), -1);
        for (int wrong : Due.WRONG_NUMBERS) {
            Due.is("rule " + wrong, desk.full(wrong, false), -1);
        }
    }

    private static void same() {
        IndependenceDesk desk = desk();
        Due.is("of other rank", desk.same(0, 1), 0);
        Due.is("itself", desk.same(0, 0), 1);
        Due.is("parts", Due.rule(desk, 2, 0, 0, 0, 0, 0, 1), 2);
        Due.is("of another kind", desk.same(1, 2), 1);
        Due.is("one thing less", Due.rule(desk, 2, 0, 0, 0, 0, 1, 1, 0), 3);
        Due.is("of the same rank", desk.same(1, 3), 0);
        Due.is("no rule 4", desk.same(0, 4), -1);
        for (int wrong : Due.WRONG_NUMBERS) {
            Due.is("first " + wrong, desk.same(wrong, 0), -1);
            Due.is("second " + wrong, desk.same(0, wrong), -1);
        }
    }

    private static void noSuch() {
        IndependenceDesk desk = desk();
        int[] sets = {32, -1, Integer.MIN_VALUE, Integer.MAX_VALUE};
        for (int set : sets) {
            Due.is("allows set " + set, desk.allows(0, set), -1);
            Due.is("rank set " + set, desk.rank(0, set), -1);
            Due.is("span set " + set, desk.span(0, set), -1);
            Due.is("ring set " + set, desk.ring(0, set), -1);
        }
        int[] rules = {2, 24, -1, Integer.MIN_VALUE, Integer.MAX_VALUE};
        for (int rule : rules) {
            Due.is("allows rule " + rule, desk.allows(rule, 0), -1);
            Due.is("rank rule " + rule, desk.rank(rule, 0), -1);
            Due.is("span rule " + rule, desk.span(rule, 0), -1);
            Due.is("ring rule " + rule, desk.ring(rule, 0), -1);
        }
    }
}
