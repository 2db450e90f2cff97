/** Promises 1 to 3 and 31: a new object, fresh, weight, count. */
public final class DeskTest {
    public static void main(String[] args) {
        newObject();
        fresh();
        weight();
        count();
        Due.done();
    }

    private static void newObject() {
        IndependenceDesk desk = new IndependenceDesk();
        Due.is("N at first", desk.count(0), 8);
        Due.is("rules at first", desk.count(1), 0);
        Due.is("slots at first", desk.count(2), 0);
        Due.is("weight at first", desk.count(3), 8);
        for (int slot = 0; slot < 10; slot++) {
            Due.is("write to an empty slot", desk.write(slot, 0, 1), -5);
        }
        for (int thing = 0; thing < 8; thing++) {
            Due.is("weight of a thing at first", desk.weight(thing, 1), 1);
        }
        Due.is("weight of thing 8", desk.weight(8, 1), -1);
        for (int what = 0; what < 3; what++) {
            Due.is("broken at first", desk.broken(what), 0);
        }
        Due.is("two desks share nothing", new IndependenceDesk().fresh(3), true);
        Due.is("N of the first desk", desk.count(0), 8);
    }

    private static void fresh() {
        IndependenceDesk desk = new IndependenceDesk();
        for (int n = 1; n <= 12; n++) {
            Due.is("fresh " + n, desk.fresh(n), true);
            Due.is("N", desk.count(0), n);
            Due.is("weight of all", desk.count(3), n);
            Due.is("a rule after fresh", Due.rule(desk, 1, 1), 0);
            Due.is("its sets", desk.look(0, 2), n + 1);
            Due.is("weight of the last thing", desk.weight(n - 1, 50), 1);
        }
        Due.lay(desk, 3, 0, 7);
        int[] refused = {0, 13, -1, Integer.MIN_VALUE, Integer.MAX_VALUE};
        for (int n : refused) {
            Due.is("fresh " + n, desk.fresh(n), false);
            Due.is("N stays", desk.count(0), 12);
            Due.is("rules stay", desk.count(1), 1);
            Due.is("weights stay", desk.count(3), 61);
        }
        Due.is("broken rule", Due.rule(desk, 0, 0), -9);
        Due.is("broken", desk.broken(0), 1);
        Due.is("fresh 5", desk.fresh(5), true);
        Due.is("no rules", desk.count(1), 0);
        Due.is("no rule 0", desk.look(0, 0), -1);
        Due.is("weights are 1", desk.count(3), 5);
        Due.is("slots stay", desk.read(3, 0), 7);
        Due.is("slots stay, counted", desk.count(2), 2);
        Due.is("broken is forgotten", desk.broken(0), 0);
        Due.is("a smaller N: its sets", desk.allows(Due.rule(desk, 1, 1), 32), -1);
    }

    private static void weight() {
        IndependenceDesk desk = new IndependenceDesk();
        Due.is("first", desk.weight(7, 1000000), 1);
        Due.is("second", desk.weight(7, 0), 1000000);
        Due.is("too heavy", desk.weight(7, 1000001), -1);
        Due.is("below 0", desk.weight(7, -1), -1);
        Due.is("unchanged", desk.weight(7, 5), 0);
        Due.is("no such thing", desk.weight(8, 5), -1);
        for (int thing : Due.WRONG_NUMBERS) {
            Due.is("no thing " + thing, desk.weight(thing, 5), -1);
        }
        Due.is("the others stay", desk.count(3), 12);
    }

    private static void count() {
        IndependenceDesk desk = new IndependenceDesk();
        desk.row(0, 0, 0);
        desk.row(9, 3, 200);
        desk.row(9, 2, 3);
        Due.is("a row of no numbers counts", desk.count(2), 2);
        desk.tear(0);
        Due.is("a torn one does not", desk.count(2), 1);
        desk.fresh(12);
        for (int thing = 0; thing < 12; thing++) {
            desk.weight(thing, 1000000);
        }
        Due.is("the greatest weight", desk.count(3), 12000000);
        Due.is("what 4", desk.count(4), -1);
        for (int what : Due.WRONG_NUMBERS) {
            Due.is("what " + what, desk.count(what), -1);
        }
    }
}
