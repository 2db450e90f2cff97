/** Promises 1 to 3 and 31, each boundary that they name and either side of it. */
public final class DeskEdgeTest {
    public static void main(String[] args) {
        newIsAsFresh8();
        newSlotsAreEmpty();
        freshFrom1To12();
        freshForgetsRules();
        freshSetsWeightsTo1();
        freshKeepsSlots();
        freshForgetsWhatIsBroken();
        weightOfThings();
        weightFrom0ToAMillion();
        countOf0To3();
        countOfRules();
        countOfSlots();
        countOfWeight();
        Due.done();
    }

    private static void newIsAsFresh8() {
        IndependenceDesk desk = new IndependenceDesk();
        Due.is("1: N", desk.count(0), 8);
        Due.is("1: no rules", desk.count(1), 0);
        Due.is("1: no rule 0", desk.look(0, 0), -1);
        Due.is("1: nothing is broken", desk.broken(0), 0);
        Due.is("1: eight weights of 1", desk.count(3), 8);
        Due.justWithin("1: a thing", 0, 7, -1, thing -> desk.weight(thing, 1));
        Due.is("1: a first rule", Due.rule(desk, 1, 8), 0);
        Due.justWithin("1: a set", 0, 255, -1, set -> desk.allows(0, set));
    }

    private static void newSlotsAreEmpty() {
        IndependenceDesk desk = new IndependenceDesk();
        Due.is("1: slots", desk.count(2), 0);
        for (int slot = 0; slot <= 9; slot++) {
            Due.is("1: slot " + slot + " has nothing", desk.write(slot, 0, 0), -5);
            Due.is("1: slot " + slot + " is not torn", desk.tear(slot), false);
            Due.is("1: slot " + slot + " makes no rule", desk.rule(1, slot), -5);
        }
    }

    private static void freshFrom1To12() {
        IndependenceDesk desk = new IndependenceDesk();
        Due.justWithin("2: fresh", 1, 12, 0, n -> desk.fresh(n) ? 1 : 0);
        for (int n = 1; n <= 12; n++) {
            IndependenceDesk other = Due.desk(n);
            int all = (1 << n) - 1;
            Due.is("2: N is that", other.count(0), n);
            Due.justWithin("2: a thing of " + n, 0, n - 1, -1, thing -> other.weight(thing, 1));
            Due.is("2: a rule of " + n, Due.rule(other, 1, 0), 0);
            Due.justWithin("2: a set of " + n, 0, all, -1, set -> other.allows(0, set));
        }
    }

    private static void freshForgetsRules() {
        IndependenceDesk desk = Due.desk(12);
        for (int i = 0; i < 24; i++) {
            Due.is("a rule", Due.rule(desk, 1, 12), i);
        }
        Due.is("2: refused", desk.fresh(13), false);
        Due.is("2: then the rules stay", desk.count(1), 24);
        Due.is("2: fresh with as many", desk.fresh(12), true);
        Due.is("2: no rules", desk.count(1), 0);
        for (int i = 0; i < 24; i++) {
            Due.is("2: no rule " + i, desk.look(i, 0), -1);
        }
        Due.is("2: numbers begin again", Due.rule(desk, 1, 0), 0);
        Due.is("2: nothing of the rule that was", desk.look(0, 2), 1);
    }

    private static void freshSetsWeightsTo1() {
        IndependenceDesk desk = Due.desk(12);
        for (int thing = 0; thing < 12; thing++) {
            desk.weight(thing, 2 + thing);
        }
        Due.is("2: refused", desk.fresh(0), false);
        Due.is("2: then the weights stay", desk.count(3), 90);
        Due.is("2: fewer things", desk.fresh(1), true);
        Due.is("2: weight of 1", desk.count(3), 1);
        Due.is("2: twelve again", desk.fresh(12), true);
        for (int thing = 0; thing < 12; thing++) {
            Due.is("2: weight of thing " + thing, desk.weight(thing, 0), 1);
        }
    }

    private static void freshKeepsSlots() {
        IndependenceDesk desk = Due.desk(12);
        for (int slot = 0; slot < 8; slot++) {
            Due.lay(desk, slot, slot % 4, 5 + slot, 1000);
        }
        Due.is("2: fresh", desk.fresh(1), true);
        Due.is("2: slots", desk.count(2), 8);
        for (int slot = 0; slot < 8; slot++) {
            Due.is("2: first number", desk.read(slot, 0), 5 + slot);
            Due.is("2: last number", desk.read(slot, 1), slot % 4 == 0 ? -24 : 1000);
            Due.is("2: no other number", desk.write(slot, 2, 0), -6);
        }
        Due.is("2: an empty one", desk.write(8, 0, 0), -5);
    }

    private static void freshForgetsWhatIsBroken() {
        IndependenceDesk desk = Due.desk(2);
        Due.is("broken", Due.rule(desk, 0, 2, 0, 3), -9);
        Due.is("2: refused", desk.fresh(13), false);
        Due.is("2: then it is known", desk.broken(1), 3);
        Due.is("2: fresh", desk.fresh(2), true);
        for (int what = 0; what <= 2; what++) {
            Due.is("14: none since fresh, " + what, desk.broken(what), 0);
        }
    }

    private static void weightOfThings() {
        int[] sizes = {1, 8, 12};
        for (int n : sizes) {
            IndependenceDesk desk = Due.desk(n);
            Due.justWithin("3: a thing of " + n, 0, n - 1, -1, thing -> desk.weight(thing, 7));
            Due.is("3: just the first and the last have it", desk.count(3), n == 1 ? 7 : n - 2 + 14);
        }
    }

    private static void weightFrom0ToAMillion() {
        IndependenceDesk desk = Due.desk(3);
        Due.is("3: 1 at first", desk.weight(1, 0), 1);
        Due.is("3: below 0", desk.weight(1, -1), -1);
        Due.is("3: 0 stays", desk.weight(1, 1), 0);
        Due.is("3: it was 1", desk.weight(1, 999999), 1);
        Due.is("3: it was one less than the most", desk.weight(1, 1000000), 999999);
        Due.is("3: one too many", desk.weight(1, 1000001), -1);
        Due.is("3: far too many", desk.weight(1, Integer.MAX_VALUE), -1);
        Due.is("3: far below 0", desk.weight(1, Integer.MIN_VALUE), -1);
        Due.is("3: the most stays", desk.weight(1, 1000000), 1000000);
        Due.is("3: no thing and no weight", desk.weight(3, -1), -1);
        Due.is("3: the others have 1 each", desk.count(3), 1000002);
    }

    private static void countOf0To3() {
        IndependenceDesk desk = Due.desk(1);
        Due.justWithin("31: what", 0, 3, -1, what -> desk.count(what));
        Due.is("31: the least N", desk.count(0), 1);
        Due.is("31: the greatest N", Due.desk(12).count(0), 12);
    }

    private static void countOfRules() {
        IndependenceDesk desk = Due.desk(2);
        for (int i = 0; i < 24; i++) {
            Due.is("31: rules", desk.count(1), i);
            Due.is("a rule", Due.rule(desk, 1, 1), i);
        }
        Due.is("31: all rules", desk.count(1), 24);
        Due.is("one too many", Due.rule(desk, 1, 1), -8);
        Due.is("31: no more of them", desk.count(1), 24);
    }

    private static void countOfSlots() {
        IndependenceDesk desk = Due.desk(2);
        for (int slot = 0; slot <= 9; slot++) {
            Due.is("31: slots", desk.count(2), slot);
            Due.is("a row of none", desk.row(slot, 0, 0), 0);
        }
        Due.is("31: all slots", desk.count(2), 10);
        Due.is("another row in its place", desk.row(9, 3, 200), 0);
        Due.is("31: still all", desk.count(2), 10);
        for (int slot = 9; slot >= 0; slot--) {
            Due.is("torn", desk.tear(slot), true);
            Due.is("31: slots left", desk.count(2), slot);
        }
    }

    private static void countOfWeight() {
        IndependenceDesk desk = Due.desk(12);
        Due.is("31: at first", desk.count(3), 12);
        for (int thing = 0; thing < 12; thing++) {
            desk.weight(thing, 0);
        }
        Due.is("31: the least weight", desk.count(3), 0);
        for (int thing = 0; thing < 12; thing++) {
            desk.weight(thing, 1000000);
        }
        Due.is("31: the most weight", desk.count(3), 12000000);
    }
}
