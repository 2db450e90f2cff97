/** Promises 22 to 25: both, split, most, three. */
public final class PairsTest {
    public static void main(String[] args) {
        bothAndSplit();
        most();
        three();
        noSuch();
        twelveThings();
        Due.done();
    }

    /** Things 0 to 5 are the fields of two rows (rule 0) and three columns (rule 1). */
    private static IndependenceDesk fields() {
        IndependenceDesk desk = new IndependenceDesk();
        desk.fresh(6);
        Due.is("one of each row", Due.rule(desk, 2, 0, 0, 0, 1, 1, 1, 1, 1), 0);
        Due.is("one of each column", Due.rule(desk, 2, 0, 1, 2, 0, 1, 2, 1, 1, 1), 1);
        Due.is("nothing", Due.rule(desk, 1, 0), 2);
        Due.is("all", Due.rule(desk, 1, 6), 3);
        return desk;
    }

    private static void bothAndSplit() {
        IndependenceDesk desk = fields();
        Due.is("both", desk.both(0, 1), 0b001010);
        Due.is("split", desk.split(0, 1), 0b111111);
        Due.is("both, the other way", desk.both(1, 0), 0b001010);
        Due.is("split, the other way", desk.split(1, 0), 0);
        Due.is("both of one", desk.both(0, 0), 0b001001);
        Due.is("split of one", desk.split(0, 0), 0);
        Due.is("both with nothing", desk.both(1, 2), 0);
        Due.is("split with nothing", desk.split(1, 2), 0);
        Due.is("split of nothing", desk.split(2, 1), 63);
        Due.is("both with all", desk.both(3, 1), 0b000111);
        Due.is("split with all", desk.split(3, 1), 0);
        Due.is("at most one of 0, 1; none of 2", Due.rule(desk, 2, 0, 0, 1, 2, 3, 4, 1, 0, 1, 1, 1), 4);
        Due.is("none of 3, 4, 5", Due.rule(desk, 2, 0, 1, 2, 3, 3, 3, 1, 1, 1, 0), 5);
        Due.is("both of a split in the middle", desk.both(4, 5), 0b000001);
        Due.is("a split in the middle", desk.split(4, 5), 0b000111);
    }

    private static void most() {
        IndependenceDesk desk = fields();
        int[] weights = {9, 5, 0, 6, 1000000, 4};
        for (int i = 0; i < 6; i++) {
            desk.weight(i, weights[i]);
        }
        Due.is("none", desk.most(0, 1, 0), 0);
        Due.is("one", desk.most(0, 1, 1), 1000000);
        Due.is("two", desk.most(0, 1, 2), 1000009);
        Due.is("three", desk.most(0, 1, 3), -1);
        Due.is("five of all", desk.most(3, 3, 5), 1000024);
        Due.is("six of all", desk.most(3, 3, 6), 1000024);
        Due.is("seven of all", desk.most(3, 3, 7), -1);
        for (int k : Due.WRONG_NUMBERS) {
            Due.is("k " + k, desk.most(3, 3, k), -1);
        }
        desk.weight(4, 0);
        Due.is("two lighter ones", desk.most(0, 1, 2), 13);
    }

    private static void three() {
        IndependenceDesk desk = fields();
        Due.is("even", Due.rule(desk, 1, 1), 4);
        Due.is("three", desk.three(0, 1, 3), 2);
        Due.is("the third limits", desk.three(0, 1, 4), 1);
        Due.is("the first limits", desk.three(2, 1, 3), 0);
        Due.is("the second limits", desk.three(3, 4, 3), 1);
        Due.is("all", desk.three(3, 3, 3), 6);
    }

    private static void noSuch() {
        IndependenceDesk desk = fields();
        int[] rules = {4, -1, Integer.MIN_VALUE, Integer.MAX_VALUE};
        for (int no : rules) {
            Due.is("both " + no, desk.both(no, 0), -1);
            Due.is("both with " + no, desk.both(0, no), -1);
            Due.is("split " + no, desk.split(no, 0), -1);
            Due.is("split with " + no, desk.split(0, no), -1);
            Due.is("most " + no, desk.most(no, 0, 0), -1);
            Due.is("most with " + no, desk.most(0, no, 0), -1);
            Due.is("three " + no, desk.three(no, 0, 0), -1);
            Due.is("three, second " + no, desk.three(0, no, 0), -1);
            Due.is("three, third " + no, desk.three(0, 0, no), -1);
        }
    }

    private static void twelveThings() {
        IndependenceDesk desk = new IndependenceDesk();
        desk.fresh(12);
        Due.is("six", Due.rule(desk, 1, 6), 0);
        Due.is("nine", Due.rule(desk, 1, 9), 1);
        for (int i = 0; i < 12; i++) {
            desk.weight(i, 1000000 - i);
        }
        Due.is("both", desk.both(0, 1), 63);
        Due.is("split", desk.split(0, 1), 4095);
        Due.is("most", desk.most(0, 1, 6), 6000000 - 15);
        Due.is("most of 12", desk.most(1, 1, 12), -1);
        Due.is("three", desk.three(1, 1, 0), 6);
    }
}
