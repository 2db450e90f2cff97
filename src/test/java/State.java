import java.util.ArrayList;
import java.util.List;

/** All that can be seen of a desk, as a list of answers; it leaves the desk as it was. */
final class State {
    private static final long PROBE = 0x0123456789ABCDEFL;

    private State() {
    }

    static List<Long> of(IndependenceDesk desk) {
        List<Long> seen = new ArrayList<>();
        for (int what = 0; what <= 3; what++) {
            seen.add((long) desk.count(what));
        }
        for (int what = 0; what <= 2; what++) {
            seen.add((long) desk.broken(what));
        }
        for (int thing = 0; thing < desk.count(0); thing++) {
            int weight = desk.weight(thing, 0);
            desk.weight(thing, weight);
            seen.add((long) weight);
        }
        for (int slot = 0; slot <= 9; slot++) {
            addSlot(seen, desk, slot);
        }
        for (int rule = 0; rule < desk.count(1); rule++) {
            addRule(seen, desk, rule);
        }
        return seen;
    }

    private static void addSlot(List<Long> seen, IndependenceDesk desk, int slot) {
        int answer = desk.write(slot, 0, desk.read(slot, 0));
        seen.add((long) answer);
        int size = 0;
        while (answer == 0 && desk.write(slot, size, desk.read(slot, size)) == 0) {
            seen.add(desk.read(slot, size));
            size++;
        }
        if (size > 0) {
            long first = desk.read(slot, 0);
            desk.write(slot, 0, PROBE);
            seen.add(desk.read(slot, 0));
            desk.write(slot, 0, first);
        }
    }

    private static void addRule(List<Long> seen, IndependenceDesk desk, int rule) {
        int[] whats = {0, 3, 4, 5};
        for (int what : whats) {
            seen.add((long) desk.look(rule, what));
        }
        for (int set = 0; set < 1 << desk.count(0); set++) {
            seen.add((long) desk.allows(rule, set));
        }
    }
}
