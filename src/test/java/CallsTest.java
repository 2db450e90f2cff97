/** A desk is used for 512 calls: the last of them is answered as the first. */
public final class CallsTest {
    private static int calls;

    public static void main(String[] args) {
        writesTo512();
        freshTo512();
        questionsTo512();
        desksShareNothing();
        Due.done();
    }

    private static void writesTo512() {
        IndependenceDesk desk = new IndependenceDesk();
        calls = 0;
        called("row", desk.row(9, 3, 200), 0);
        while (calls < 510) {
            called("write", desk.write(9, calls % 200, calls), 0);
        }
        called("the last write but one", desk.write(9, 199, 1), 0);
        called("the 512th call", desk.read(9, 199), 1);
        Due.is("calls", calls, 512);
    }

    /** Every fresh() and the rule that comes of it answer alike, with all sizes in turn. */
    private static void freshTo512() {
        IndependenceDesk desk = new IndependenceDesk();
        calls = 0;
        called("row", desk.row(0, 0, 1), 0);
        called("write", desk.write(0, 0, 1), 0);
        for (int round = 0; calls + 5 <= 512; round++) {
            int n = 1 + round * 7 % 12;
            called("fresh", desk.fresh(n) ? 1 : 0, 1);
            called("rule", desk.rule(1, 0), 0);
            called("turn", desk.turn(0), 1);
            called("sets", desk.look(0, 2), n + 1);
            called("rank of what is turned", desk.look(1, 1), n - 1);
        }
        Due.is("calls", calls, 512);
    }

    /** Twelve things, 24 rules, and the dearest questions. */
    private static void questionsTo512() {
        IndependenceDesk desk = new IndependenceDesk();
        calls = 0;
        called("fresh", desk.fresh(12) ? 1 : 0, 1);
        called("row", desk.row(0, 0, 1), 0);
        called("write", desk.write(0, 0, 3), 0);
        called("rule", desk.rule(1, 0), 0);
        for (int i = 1; i < 24; i++) {
            called("join", desk.join(0, 0), i);
        }
        for (int rule = 0; calls + 4 <= 511; rule = (rule + 1) % 24) {
            called("dealt", desk.dealt(rule, 11), rule == 0 ? 3 : 1);
            called("pack", desk.pack(rule), rule == 0 ? 4 : 2);
            called("crowd", desk.crowd(rule), rule == 0 ? 1023 : 127);
            called("split", desk.split(rule, 0), 0);
        }
        called("count", desk.count(1), 24);
        Due.is("calls", calls, 512);
    }

    private static void called(String what, long got, long want) {
        calls++;
        Due.is("call " + calls + ": " + what, got, want);
    }

    private static void desksShareNothing() {
        IndependenceDesk first = Due.desk(3);
        IndependenceDesk second = Due.desk(2);
        Due.is("rule", Due.rule(first, 1, 3), 0);
        Due.is("rule", Due.rule(second, 1, 1), 0);
        Due.is("broken", Due.rule(first, 0, 0), -9);
        first.weight(0, 9);
        Due.is("the first's N", first.count(0), 3);
        Due.is("the second's N", second.count(0), 2);
        Due.is("the first's sets", first.look(0, 2), 8);
        Due.is("the second's sets", second.look(0, 2), 3);
        Due.is("the second's weights", second.count(3), 2);
        Due.is("nothing of the second is broken", second.broken(0), 0);
        Due.is("the first's row", first.read(9, 0), 0);
        Due.is("the second's row", second.read(9, 0), 1);
    }
}
