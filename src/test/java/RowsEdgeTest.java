/** Promises 4 to 8, each boundary that they name and either side of it. */
public final class RowsEdgeTest {
    public static void main(String[] args) {
        rowOfSlotsAndWidths();
        rowFrom0To200();
        rowGivesTheFirstRefusal();
        rowIsAllZeros();
        rowInPlaceOfAnother();
        tear();
        writeIsCut();
        writeToNumbersThatThereAre();
        writeGivesTheFirstRefusal();
        readIsZeroWhereWriteIsRefused();
        copyOfSlots();
        copyOfOneWidth();
        copyWithinBothRows();
        copyOfNone();
        copyAsIfAllWereTakenFirst();
        copyGivesTheFirstRefusal();
        Due.done();
    }

    private static void rowOfSlotsAndWidths() {
        IndependenceDesk desk = new IndependenceDesk();
        Due.justWithin("4: a slot", 0, 9, -2, slot -> desk.row(slot, 0, 1));
        Due.justWithin("4: a width", 0, 3, -2, width -> desk.row(5, width, 1));
        for (int slot = 0; slot <= 9; slot++) {
            Due.is("4: slot " + slot, desk.row(slot, slot % 4, 1), 0);
        }
    }

    private static void rowFrom0To200() {
        IndependenceDesk desk = new IndependenceDesk();
        int[] sizes = {0, 1, 2, 199, 200};
        for (int width = 0; width <= 3; width++) {
            for (int n : sizes) {
                Due.is("4: a row of " + n, desk.row(4, width, n), 0);
                Due.is("4: it has " + n, desk.copy(4, 0, 4, 0, n), 0);
                Due.is("4: and no more", desk.write(4, n, 1), -6);
            }
        }
        Due.is("4: one above 200", desk.row(4, 0, 201), -2);
        Due.is("4: far above 200", desk.row(4, 0, Integer.MAX_VALUE), -2);
        Due.is("4: one below 0", desk.row(4, 0, -1), -3);
        Due.is("4: far below 0", desk.row(4, 0, Integer.MIN_VALUE), -3);
        Due.is("4: the row that was stays", desk.write(4, 199, Long.MAX_VALUE), 0);
        Due.is("4: and its width", desk.read(4, 199), Long.MAX_VALUE);
        Due.is("4: nothing comes by a refusal", desk.row(3, 0, 201), -2);
        Due.is("4: slot 3 is empty", desk.write(3, 0, 0), -5);
        Due.is("4: nor by the other", desk.row(3, 0, -1), -3);
        Due.is("4: slot 3 is empty still", desk.write(3, 0, 0), -5);
    }

    private static void rowGivesTheFirstRefusal() {
        IndependenceDesk desk = new IndependenceDesk();
        Due.is("4: no slot, below 0", desk.row(10, 0, -1), -2);
        Due.is("4: no slot before the first, below 0", desk.row(-1, 0, -1), -2);
        Due.is("4: no width, below 0", desk.row(0, 4, -1), -2);
        Due.is("4: no width before the first, below 0", desk.row(0, -1, -1), -2);
        Due.is("4: no slot, too many", desk.row(10, 0, 201), -2);
    }

    private static void rowIsAllZeros() {
        IndependenceDesk desk = new IndependenceDesk();
        Due.lay(desk, 0, 3, 1, 2, 3, 4, 5);
        Due.is("4: a shorter one", desk.row(0, 3, 2), 0);
        Due.is("4: its last number", desk.read(0, 1), 0);
        Due.is("4: a longer one", desk.row(0, 3, 5), 0);
        for (int i = 0; i < 5; i++) {
            Due.is("4: number " + i, desk.read(0, i), 0);
        }
        Due.is("4: of 200", desk.row(0, 3, 200), 0);
        Due.is("write to the last", desk.write(0, 199, 9), 0);
        Due.is("torn", desk.tear(0), true);
        Due.is("4: of 200 again", desk.row(0, 3, 200), 0);
        Due.is("4: its last number is 0", desk.read(0, 199), 0);
    }

    private static void rowInPlaceOfAnother() {
        IndependenceDesk desk = new IndependenceDesk();
        Due.is("4: wide", desk.row(0, 3, 1), 0);
        Due.is("4: narrow in its place", desk.row(0, 0, 1), 0);
        Due.is("write", desk.write(0, 0, 128), 0);
        Due.is("4: is cut to one byte", desk.read(0, 0), -128);
        Due.is("4: wide again", desk.row(0, 1, 1), 0);
        Due.is("write", desk.write(0, 0, 128), 0);
        Due.is("4: is not cut", desk.read(0, 0), 128);
        Due.is("31: one slot has a row", desk.count(2), 1);
    }

    private static void tear() {
        IndependenceDesk desk = new IndependenceDesk();
        for (int slot = 0; slot <= 9; slot++) {
            Due.is("5: it had nothing", desk.tear(slot), false);
            Due.is("a row of none", desk.row(slot, 0, 0), 0);
        }
        Due.justWithin("5: a slot", 0, 9, 0, slot -> desk.tear(slot) ? 1 : 0);
        Due.is("5: the first has nothing", desk.write(0, 0, 0), -5);
        Due.is("5: the last has nothing", desk.write(9, 0, 0), -5);
        Due.is("5: another one keeps its row", desk.write(1, 0, 0), -6);
        Due.is("5: torn already", desk.tear(9), false);
        Due.is("31: eight are left", desk.count(2), 8);
    }

    private static void writeIsCut() {
        long[] most = {127, 32767, 2147483647L};
        for (int width = 0; width <= 2; width++) {
            long m = most[width];
            long[] numbers = {0, m, m + 1, 2 * m + 1, 2 * m + 2, 2 * m + 3, -1, -m - 1, -m - 2, -2 * m - 2,
                Long.MAX_VALUE, Long.MIN_VALUE};
            long[] due = {0, m, -m - 1, -1, 0, 1, -1, -m - 1, m, 0, -1, 0};
            IndependenceDesk desk = new IndependenceDesk();
            Due.lay(desk, 0, width, numbers);
            for (int i = 0; i < numbers.length; i++) {
                Due.is("6: " + numbers[i] + " in width " + width, desk.read(0, i), due[i]);
            }
        }
        IndependenceDesk desk = new IndependenceDesk();
        long[] whole = {Long.MAX_VALUE, Long.MIN_VALUE, 1L << 32, -1, (1L << 31) + 5};
        Due.lay(desk, 0, 3, whole);
        for (int i = 0; i < whole.length; i++) {
            Due.is("6: nothing is cut off " + whole[i], desk.read(0, i), whole[i]);
        }
    }

    private static void writeToNumbersThatThereAre() {
        int[] sizes = {1, 2, 199, 200};
        for (int n : sizes) {
            IndependenceDesk desk = new IndependenceDesk();
            Due.is("row", desk.row(0, 1, n), 0);
            Due.justWithin("6: a number of " + n, 0, n - 1, -6, i -> desk.write(0, i, 3));
            int written = 0;
            for (int i = 0; i < n; i++) {
                written += (int) desk.read(0, i);
            }
            Due.is("6: just the first and the last are written", written, n == 1 ? 3 : 6);
        }
        IndependenceDesk desk = new IndependenceDesk();
        Due.is("a row of none", desk.row(0, 0, 0), 0);
        Due.is("6: it has no number 0", desk.write(0, 0, 1), -6);
        Due.is("6: nor one ahead", desk.write(0, -1, 1), -6);
    }

    private static void writeGivesTheFirstRefusal() {
        IndependenceDesk desk = new IndependenceDesk();
        Due.justWithin("6: a slot", 0, 9, -2, slot -> desk.write(slot, 0, 1));
        Due.is("6: no slot, no number", desk.write(10, -1, 1), -2);
        Due.is("6: nothing there, no number", desk.write(0, -1, 1), -5);
        Due.is("6: nothing there, a number behind", desk.write(0, 200, 1), -5);
    }

    private static void readIsZeroWhereWriteIsRefused() {
        IndependenceDesk desk = new IndependenceDesk();
        Due.lay(desk, 0, 2, 11, 12, 13);
        Due.lay(desk, 9, 2, 21, 22, 23);
        Due.justWithin("7: a number", 0, 2, 0, i -> desk.read(0, i));
        int[] noSlots = {-1, 10, Integer.MIN_VALUE, Integer.MAX_VALUE};
        for (int slot : noSlots) {
            Due.is("7: slot " + slot, desk.read(slot, 0), 0);
        }
        Due.is("7: the first of the first slot", desk.read(0, 0), 11);
        Due.is("7: the last of the last slot", desk.read(9, 2), 23);
        Due.is("7: nothing there", desk.read(5, 0), 0);
        Due.is("a shorter row", desk.row(9, 2, 1), 0);
        Due.is("7: what was behind it", desk.read(9, 1), 0);
        Due.is("torn", desk.tear(0), true);
        Due.is("7: what was torn", desk.read(0, 0), 0);
    }

    private static void copyOfSlots() {
        IndependenceDesk desk = new IndependenceDesk();
        for (int slot = 0; slot <= 9; slot++) {
            Due.lay(desk, slot, 1, slot + 1);
        }
        Due.justWithin("8: a first slot", 0, 9, -2, slot -> desk.copy(slot, 0, 5, 0, 1));
        Due.justWithin("8: another slot", 0, 9, -2, slot -> desk.copy(5, 0, slot, 0, 1));
        Due.is("8: the last one's came", desk.read(5, 0), 10);
        Due.is("8: to the first one", desk.read(0, 0), 10);
        Due.is("8: no other one has it", desk.read(4, 0), 5);
        Due.is("torn", desk.tear(6), true);
        Due.is("8: the first has nothing", desk.copy(6, 0, 5, 0, 1), -5);
        Due.is("8: the other has nothing", desk.copy(5, 0, 6, 0, 1), -5);
        Due.is("8: one that has nothing to itself", desk.copy(6, 0, 6, 0, 0), -5);
    }

    private static void copyOfOneWidth() {
        IndependenceDesk desk = new IndependenceDesk();
        for (int slot = 0; slot < 8; slot++) {
            Due.lay(desk, slot, slot % 4, 1 + slot);
        }
        for (int a = 0; a < 8; a++) {
            for (int b = 0; b < 8; b++) {
                int due = a % 4 == b % 4 ? 0 : -7;
                Due.is("8: widths " + a % 4 + ", " + b % 4, desk.copy(a, 0, b, 0, 0), due);
            }
        }
        Due.is("8: none, of other width", desk.copy(0, 1, 1, 1, 0), -7);
    }

    /** Of a row of 3 to one of 5. */
    private static void copyWithinBothRows() {
        IndependenceDesk desk = new IndependenceDesk();
        Due.lay(desk, 0, 0, 1, 2, 3);
        Due.lay(desk, 1, 0, 0, 0, 0, 0, 0);
        Due.justWithin("8: i, with two", 0, 1, -6, i -> desk.copy(0, i, 1, 0, 2));
        Due.justWithin("8: j, with two", 0, 3, -6, j -> desk.copy(0, 0, 1, j, 2));
        Due.justWithin("8: n of the first's", 0, 3, -6, n -> desk.copy(0, 0, 1, 2, n));
        Due.justWithin("8: n to the other", 0, 2, -6, n -> desk.copy(0, 0, 1, 3, n));
        Due.justWithin("8: n from the last on", 0, 1, -6, n -> desk.copy(0, 2, 1, 0, n));
        Due.is("8: n below 0, where there is room ahead", desk.copy(0, 2, 1, 2, -1), -6);
        int max = Integer.MAX_VALUE;
        Due.is("8: i and n together wrap around", desk.copy(0, 1, 1, 0, max), -6);
        Due.is("8: j and n together wrap around", desk.copy(0, 0, 1, 1, max), -6);
        Due.is("8: all three wrap around", desk.copy(0, max, 1, max, max), -6);
        isRow(desk, 0, 1, 2, 3);
        isRow(desk, 1, 3, 2, 1, 1, 2);
    }

    private static void copyOfNone() {
        IndependenceDesk desk = new IndependenceDesk();
        Due.lay(desk, 0, 0, 1, 2, 3);
        Due.is("a row of none", desk.row(1, 0, 0), 0);
        Due.is("8: none to a row of none", desk.copy(0, 0, 1, 0, 0), 0);
        Due.is("8: none of a row of none", desk.copy(1, 0, 0, 0, 0), 0);
        Due.is("8: one of a row of none", desk.copy(1, 0, 0, 0, 1), -6);
        Due.is("8: one to a row of none", desk.copy(0, 0, 1, 0, 1), -6);
        Due.justWithin("8: i, with none", 0, 3, -6, i -> desk.copy(0, i, 1, 0, 0));
        Due.justWithin("8: j, with none", 0, 3, -6, j -> desk.copy(1, 0, 0, j, 0));
        isRow(desk, 0, 1, 2, 3);
    }

    private static void copyAsIfAllWereTakenFirst() {
        IndependenceDesk desk = new IndependenceDesk();
        Due.lay(desk, 0, 2, 1, 2, 3, 4, 5);
        Due.is("8: on its own place", desk.copy(0, 0, 0, 0, 5), 0);
        isRow(desk, 0, 1, 2, 3, 4, 5);
        Due.is("8: one place on", desk.copy(0, 0, 0, 1, 4), 0);
        isRow(desk, 0, 1, 1, 2, 3, 4);
        Due.is("8: one place back", desk.copy(0, 1, 0, 0, 4), 0);
        isRow(desk, 0, 1, 2, 3, 4, 4);
        Due.is("row", desk.row(1, 3, 200), 0);
        Due.is("row", desk.row(2, 3, 200), 0);
        Due.is("write", desk.write(1, 199, Long.MIN_VALUE), 0);
        Due.is("8: a whole row of 200", desk.copy(1, 0, 2, 0, 200), 0);
        Due.is("8: its last number", desk.read(2, 199), Long.MIN_VALUE);
    }

    private static void copyGivesTheFirstRefusal() {
        IndependenceDesk desk = new IndependenceDesk();
        Due.lay(desk, 0, 0, 1);
        Due.lay(desk, 1, 1, 1);
        Due.is("8: no slot, nothing there", desk.copy(10, 0, 5, 0, 1), -2);
        Due.is("8: nothing there, no slot", desk.copy(5, 0, 10, 0, 1), -2);
        Due.is("8: no slot, no number", desk.copy(0, -1, -1, 0, 1), -2);
        Due.is("8: nothing there, no number", desk.copy(0, -1, 5, 0, 1), -5);
        Due.is("8: nothing there, n below 0", desk.copy(5, 0, 0, 0, -1), -5);
        Due.is("8: other width, i below 0", desk.copy(0, -1, 1, 0, 1), -7);
        Due.is("8: other width, j below 0", desk.copy(0, 0, 1, -1, 1), -7);
        Due.is("8: other width, n below 0", desk.copy(0, 0, 1, 0, -1), -7);
        Due.is("8: other width, not so many", desk.copy(0, 0, 1, 0, 2), -7);
    }

    private static void isRow(IndependenceDesk desk, int slot, long... numbers) {
        for (int i = 0; i < numbers.length; i++) {
            Due.is("8: number " + i + " of slot " + slot, desk.read(slot, i), numbers[i]);
        }
        Due.is("8: as many numbers as there were", desk.write(slot, numbers.length, 0), -6);
    }
}
