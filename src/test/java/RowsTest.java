/** Promises 4 to 8: row, tear, write, read, copy. */
public final class RowsTest {
    public static void main(String[] args) {
        row();
        tear();
        writeAndRead();
        copy();
        Due.done();
    }

    private static void row() {
        IndependenceDesk desk = new IndependenceDesk();
        for (int width = 0; width <= 3; width++) {
            Due.is("row", desk.row(width, width, 200), 0);
            Due.is("its last number", desk.read(width, 199), 0);
            Due.is("write there", desk.write(width, 199, 1), 0);
            Due.is("none behind it", desk.write(width, 200, 1), -6);
        }
        Due.lay(desk, 4, 1, 5, 6, 7);
        Due.is("another in its place", desk.row(4, 0, 4), 0);
        for (int i = 0; i < 4; i++) {
            Due.is("all 0", desk.read(4, i), 0);
        }
        Due.is("a longer one again", desk.row(2, 0, 200), 0);
        Due.is("all 0 to the end", desk.read(2, 199), 0);
        Due.lay(desk, 5, 3, 9);
        Due.is("no slot, n below 0", desk.row(10, 0, -1), -2);
        Due.is("no width, n below 0", desk.row(5, 4, -1), -2);
        Due.is("no width", desk.row(5, -1, 1), -2);
        Due.is("too long", desk.row(5, 0, 201), -2);
        Due.is("far too long", desk.row(5, 0, Integer.MAX_VALUE), -2);
        Due.is("below 0", desk.row(5, 0, -1), -3);
        Due.is("far below 0", desk.row(5, 0, Integer.MIN_VALUE), -3);
        for (int slot : Due.WRONG_NUMBERS) {
            Due.is("slot " + slot, desk.row(slot, 0, 1), -2);
        }
        Due.is("a refused row changes nothing", desk.read(5, 0), 9);
    }

    private static void tear() {
        IndependenceDesk desk = new IndependenceDesk();
        Due.is("nothing there", desk.tear(0), false);
        desk.row(0, 2, 0);
        Due.is("a row of no numbers", desk.tear(0), true);
        Due.is("torn already", desk.tear(0), false);
        Due.lay(desk, 1, 2, 3, 4);
        Due.is("a row", desk.tear(1), true);
        Due.is("it has nothing", desk.write(1, 0, 1), -5);
        Due.is("nothing to read", desk.read(1, 0), 0);
        Due.is("no slot 10", desk.tear(10), false);
        for (int slot : Due.WRONG_NUMBERS) {
            Due.is("no slot " + slot, desk.tear(slot), false);
        }
        desk.row(1, 2, 2);
        Due.is("a new one has zeros", desk.read(1, 0), 0);
    }

    private static void writeAndRead() {
        IndependenceDesk desk = new IndependenceDesk();
        long v = 0x123456789ABCDEF0L;
        long[] cut = {(byte) v, (short) v, (int) v, v};
        for (int width = 0; width <= 3; width++) {
            Due.lay(desk, width, width, v, 127, 128, -1, Long.MIN_VALUE, 65535);
            Due.is("cut to width " + width, desk.read(width, 0), cut[width]);
            Due.is("127", desk.read(width, 1), 127);
            Due.is("128", desk.read(width, 2), width == 0 ? -128 : 128);
            Due.is("-1", desk.read(width, 3), -1);
            Due.is("the least", desk.read(width, 4), width == 3 ? Long.MIN_VALUE : 0);
            Due.is("65535", desk.read(width, 5), width < 2 ? -1 : 65535);
        }
        Due.is("no slot", desk.write(10, -1, 1), -2);
        Due.is("no slot to read", desk.read(10, 0), 0);
        Due.is("an empty slot", desk.write(9, -1, 1), -5);
        Due.is("an empty slot to read", desk.read(9, 0), 0);
        Due.is("no number", desk.write(3, 6, 1), -6);
        Due.is("no number to read", desk.read(3, 6), 0);
        for (int wrong : Due.WRONG_NUMBERS) {
            Due.is("slot " + wrong, desk.write(wrong, 0, 1), -2);
            Due.is("number " + wrong, desk.write(3, wrong, 1), -6);
            Due.is("read slot " + wrong, desk.read(wrong, 0), 0);
            Due.is("read number " + wrong, desk.read(3, wrong), 0);
        }
        Due.is("the first stays", desk.read(3, 0), v);
    }

    private static void copy() {
        IndependenceDesk desk = new IndependenceDesk();
        Due.lay(desk, 0, 2, 1, 2, 3, 4, 5);
        Due.lay(desk, 1, 2, 10, 20, 30);
        Due.lay(desk, 2, 1, 7, 7, 7);
        Due.is("copy", desk.copy(0, 3, 1, 1, 2), 0);
        is(desk, 1, 10, 4, 5);
        Due.is("forward onto itself", desk.copy(0, 0, 0, 1, 4), 0);
        is(desk, 0, 1, 1, 2, 3, 4);
        Due.is("back onto itself", desk.copy(0, 2, 0, 0, 3), 0);
        is(desk, 0, 2, 3, 4, 3, 4);
        Due.is("none, at the end", desk.copy(0, 5, 1, 3, 0), 0);
        Due.is("no slot", desk.copy(0, 0, 10, 0, 1), -2);
        Due.is("no slot ahead of an empty one", desk.copy(3, 0, -1, 0, 1), -2);
        Due.is("no first slot", desk.copy(-1, 0, 3, 0, 1), -2);
        Due.is("an empty one", desk.copy(0, 0, 3, 0, 1), -5);
        Due.is("an empty first", desk.copy(3, 0, 0, 0, 1), -5);
        Due.is("other width, wrong place", desk.copy(0, -1, 2, 0, 1), -7);
        int max = Integer.MAX_VALUE;
        int[][] outside = {{-1, 0, 1}, {0, -1, 1}, {0, 0, -1}, {3, 0, 3}, {0, 1, 3}, {0, 0, 4},
            {max, 0, max}, {0, max, 1}, {0, 0, max}, {6, 0, 0}, {0, 4, 0}, {max, max, max},
            {Integer.MIN_VALUE, 0, 0}, {0, 0, Integer.MIN_VALUE}, {1, 1, max}};
        for (int[] x : outside) {
            Due.is("from " + x[0] + " to " + x[1] + ", " + x[2], desk.copy(0, x[0], 1, x[1], x[2]), -6);
        }
        is(desk, 0, 2, 3, 4, 3, 4);
        is(desk, 1, 10, 4, 5);
    }

    private static void is(IndependenceDesk desk, int slot, long... numbers) {
        for (int i = 0; i < numbers.length; i++) {
            Due.is("slot " + slot + " number " + i, desk.read(slot, i), numbers[i]);
        }
    }
}
