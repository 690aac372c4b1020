/** The edges that the promises on inputs, tables and entries name, a test for each sentence. */
public final class TablesEdgesTest implements Words {
    private static final int[] NONE = {};

    public static void main(String[] args) {
        inputCountsUpToFour();
        inputIsFullAtFour();
        inputListsAreApart();
        inputTakesAnyInt();
        inputIsOfTheNextTable();

        tableOfEverySize();
        tableOfNoRows();
        tableOfNoColumns();
        tableOfNothing();
        tableInsteadOfTheOld();
        tableRowAndColumnAreNotMixedUp();
        tableCellsWithin();
        tableOutOutside();
        tableRowCellOutside();
        tableColumnCellOutside();
        tableOverTheSameCell();
        tableOutMayBeAnInputCell();
        tableCellsHeldAsNumbers();
        tableInputCellsOfOneAnother();
        tableOfACellThatDependsOnNeither();
        tableWraps();
        tableOverLongChains();
        tableLeavesTheCells();
        tableForgetsBothLists();
        tableForgetsTheListsThoughOneIsEmpty();

        entryWithin();
        entryOutside();
        entryAsWorkedOutThen();
        entryOfTheLastTable();
        Due.end();
    }

    private static void inputCountsUpToFour() {
        Due.part("promise 6: 'answers how many that list has'");
        boolean[] lists = {true, false};
        for (boolean row : lists) {
            Sheet x = new Sheet();
            for (int k = 1; k <= 4; k++) {
                x.input(row, 7, k);
            }
        }
    }

    private static void inputIsFullAtFour() {
        Due.part("promise 6: 'The list has four: FULL'");
        boolean[] lists = {true, false};
        for (boolean row : lists) {
            Sheet x = new Sheet();
            x.inputs(row, 1, 2, 3, 4);
            for (int value : ANY_INTS) {
                x.input(row, value, FULL);
            }
            x.input(!row, 9, 1);
            x.table(row ? 0 : 1, 0, 1, 4);
            for (int k = 0; k < 4; k++) {
                x.entry(row ? k : 0, row ? 0 : k, k + 1);
            }
        }
    }

    private static void inputListsAreApart() {
        Due.part("promise 6: 'the list of row inputs (row true) or of column inputs (row false)'");
        Sheet x = new Sheet();
        x.input(true, 1, 1);
        x.input(true, 2, 2);
        x.input(false, 30, 1);
        x.input(true, 3, 3);
        x.input(true, 4, 4);
        x.input(false, 40, 2);
        x.input(true, 5, FULL);
        x.input(false, 50, 3);
        x.input(false, 60, 4);
        x.input(false, 70, FULL);
        x.hold(2, CELL, 0, CELL, 1, ADD, 0);
        x.table(2, 0, 1, 16);
        for (int i = 0; i < 4; i++) {
            for (int j = 0; j < 4; j++) {
                x.entry(i, j, i + 1 + 10 * j + 30);
            }
        }
    }

    private static void inputTakesAnyInt() {
        Due.part("promise 6: 'Types a number', the least and the greatest too");
        for (int value : ANY_INTS) {
            Sheet x = new Sheet();
            x.tableOf(3, 3, 4, new int[] {value}, new int[] {1}, value);
            x.tableOf(4, 3, 4, new int[] {1}, new int[] {value}, value);
        }
    }

    private static void inputIsOfTheNextTable() {
        Due.part("promise 6: inputs are those 'of the next table'");
        Sheet x = new Sheet();
        x.tableOf(0, 0, 1, new int[] {1, 2}, new int[] {3}, 1, 2);
        x.inputs(true, 8, 9, 10);
        x.inputs(false, 11, 12);
        x.entry(0, 0, 1);
        x.entry(1, 0, 2);
        x.entry(2, 0, 0);
        x.entry(0, 1, 0);
        x.table(0, 0, 1, 6);
        x.entry(2, 1, 10);
    }

    private static int[] firstOf(int count, int first) {
        int[] numbers = new int[count];
        for (int k = 0; k < count; k++) {
            numbers[k] = first + k;
        }
        return numbers;
    }

    // Every entry of the table of 'row + 10 * column', and nothing but 0 outside of it.
    private static void sumsOf(Sheet x, int rows, int columns) {
        for (int i = -1; i <= 4; i++) {
            for (int j = -1; j <= 4; j++) {
                boolean within = i >= 0 && i < rows && j >= 0 && j < columns;
                x.entry(i, j, within ? 101 + i + 10 * (1 + j) : 0);
            }
        }
    }

    private static void sumTable(Sheet x, int rows, int columns) {
        x.inputs(true, firstOf(rows, 101));
        x.inputs(false, firstOf(columns, 1));
        x.hold(15, CELL, 0, NUMBER, 10, CELL, 1, MUL, 0, ADD, 0);
        x.table(15, 0, 1, rows * columns);
        sumsOf(x, rows, columns);
    }

    private static void tableOfEverySize() {
        Due.part("promise 7: 'as many rows as there are row inputs and as many columns as column inputs', 'answers rows * columns'");
        for (int rows = 0; rows <= 4; rows++) {
            for (int columns = 0; columns <= 4; columns++) {
                sumTable(new Sheet(), rows, columns);
            }
        }
    }

    private static void tableOfNoRows() {
        Due.part("promise 7: no row inputs, a table without rows");
        for (int columns = 1; columns <= 4; columns++) {
            Sheet x = new Sheet();
            sumTable(x, 4, 4);
            sumTable(x, 0, columns);
        }
    }

    private static void tableOfNoColumns() {
        Due.part("promise 7: no column inputs, a table without columns");
        for (int rows = 1; rows <= 4; rows++) {
            Sheet x = new Sheet();
            sumTable(x, 4, 4);
            sumTable(x, rows, 0);
        }
    }

    private static void tableOfNothing() {
        Due.part("promise 7: no inputs at all, an empty table instead of the old one");
        Sheet x = new Sheet();
        sumTable(x, 4, 4);
        x.tableOf(15, 0, 1, NONE, NONE);
        sumsOf(x, 0, 0);
    }

    private static void tableInsteadOfTheOld() {
        Due.part("promise 7: a smaller table leaves nothing of the larger one, a larger one is whole");
        int[][] sizes = {{4, 4}, {2, 3}, {3, 2}, {1, 4}, {4, 1}, {4, 4}};
        Sheet x = new Sheet();
        for (int[] size : sizes) {
            sumTable(x, size[0], size[1]);
        }
    }

    private static void tableRowAndColumnAreNotMixedUp() {
        Due.part("promise 7: 'rowCell held row input number i as its number and columnCell column input number j'");
        Sheet x = new Sheet();
        x.hold(2, CELL, 0, CELL, 1, SUB, 0);
        x.tableOf(2, 0, 1, new int[] {10, 20}, new int[] {1, 2, 3}, 9, 8, 7, 19, 18, 17);
        x.tableOf(2, 1, 0, new int[] {10, 20}, new int[] {1, 2, 3}, -9, -8, -7, -19, -18, -17);
    }

    private static void tableCellsWithin() {
        Due.part("promise 7: all three cells in 0 to 15");
        for (int cell = 0; cell < CELLS; cell++) {
            int other = (cell + 1) % CELLS;
            int third = (cell + 9) % CELLS;
            Sheet x = new Sheet();
            x.hold(cell, CELL, other, CELL, third, SUB, 0);
            x.tableOf(cell, other, third, new int[] {50}, new int[] {8}, 42);
        }
        Sheet x = new Sheet();
        x.tableOf(0, 0, 15, new int[] {5}, new int[] {6}, 5);
        x.tableOf(15, 0, 15, new int[] {5}, new int[] {6}, 6);
        x.tableOf(0, 15, 0, new int[] {5}, new int[] {6}, 6);
        x.tableOf(15, 15, 0, new int[] {5}, new int[] {6}, 5);
    }

    // A table and lists that must both stay: after the refused calls the lists still make the table that is due.
    private static Sheet withTableAndLists() {
        Sheet x = new Sheet();
        sumTable(x, 2, 3);
        x.inputs(true, 7, 8, 9);
        x.inputs(false, 4);
        return x;
    }

    private static void tableAndListsStay(Sheet x) {
        sumsOf(x, 2, 3);
        x.table(15, 0, 1, 3);
        x.entry(0, 0, 47);
        x.entry(1, 0, 48);
        x.entry(2, 0, 49);
        x.entry(0, 1, 0);
    }

    private static void tableOutOutside() {
        Due.part("promise 7: 'One of the three cells not in 0 to 15: BAD_CELL', out");
        for (int cell : NO_CELLS) {
            Sheet x = withTableAndLists();
            x.table(cell, 0, 1, BAD_CELL);
            x.table(cell, 15, 14, BAD_CELL);
            x.table(cell, 3, 3, BAD_CELL);
            tableAndListsStay(x);
        }
    }

    private static void tableRowCellOutside() {
        Due.part("promise 7: 'One of the three cells not in 0 to 15: BAD_CELL', rowCell");
        for (int cell : NO_CELLS) {
            Sheet x = withTableAndLists();
            x.table(15, cell, 1, BAD_CELL);
            x.table(0, cell, 0, BAD_CELL);
            x.table(15, cell, 15, BAD_CELL);
            tableAndListsStay(x);
        }
    }

    private static void tableColumnCellOutside() {
        Due.part("promise 7: 'One of the three cells not in 0 to 15: BAD_CELL', columnCell");
        for (int cell : NO_CELLS) {
            Sheet x = withTableAndLists();
            x.table(15, 0, cell, BAD_CELL);
            x.table(0, 0, cell, BAD_CELL);
            x.table(15, 15, cell, BAD_CELL);
            x.table(cell, cell, cell, BAD_CELL);
            tableAndListsStay(x);
        }
    }

    private static void tableOverTheSameCell() {
        Due.part("promise 7: 'rowCell == columnCell: BAD_CELL'");
        for (int cell = 0; cell < CELLS; cell++) {
            Sheet x = withTableAndLists();
            x.table(15, cell, cell, BAD_CELL);
            x.table(0, cell, cell, BAD_CELL);
            x.table(cell, cell, cell, BAD_CELL);
            tableAndListsStay(x);
        }
        Sheet x = new Sheet();
        x.table(15, 0, 0, BAD_CELL);
        x.table(15, 0, 1, 0);
    }

    private static void tableOutMayBeAnInputCell() {
        Due.part("promise 7: only rowCell and columnCell must be different cells, out may be one of them");
        Sheet x = new Sheet();
        x.number(1, 77, 1);
        x.hold(2, CELL, 1);
        x.tableOf(1, 1, 2, new int[] {5, 6}, new int[] {8, 9}, 5, 5, 6, 6);
        x.tableOf(2, 1, 2, new int[] {5, 6}, new int[] {8, 9}, 8, 9, 8, 9);
    }

    private static void tableCellsHeldAsNumbers() {
        Due.part("promise 7: 'as its number (instead of what they hold)', a formula");
        Sheet x = new Sheet();
        x.number(0, 3, 1);
        x.hold(1, CELL, 0, NUMBER, 100, MUL, 0);
        x.hold(2, CELL, 0, NUMBER, 1000, MUL, 0);
        x.hold(3, CELL, 1, CELL, 2, ADD, 0);
        x.tableOf(3, 1, 2, new int[] {1, 2}, new int[] {10, 20}, 11, 21, 12, 22);
        x.tableOf(3, 1, 0, new int[] {1, 2}, new int[] {10, 20}, 10001, 20001, 10002, 20002);
        x.tableOf(3, 3, 0, new int[] {1, 2}, new int[] {10, 20}, 1, 1, 2, 2);
    }

    private static void tableInputCellsOfOneAnother() {
        Due.part("promise 7: '(instead of what they hold)', a formula that names the other one");
        Sheet x = new Sheet();
        x.number(0, 3, 1);
        x.hold(1, CELL, 0, NUMBER, 5, ADD, 0);
        x.hold(2, CELL, 0, CELL, 1, MUL, 0);
        x.tableOf(2, 0, 1, new int[] {2, 4}, new int[] {10, 100}, 20, 200, 40, 400);
        x.tableOf(2, 1, 0, new int[] {2, 4}, new int[] {10, 100}, 20, 200, 40, 400);
        x.tableOf(1, 0, 2, new int[] {2, 4}, new int[] {10, 100}, 7, 7, 9, 9);
        x.tableOf(0, 1, 2, new int[] {2, 4}, new int[] {10, 100}, 3, 3, 3, 3);
    }

    private static void tableOfACellThatDependsOnNeither() {
        Due.part("promise 7: 'the value cell out would have', no other than it has");
        Sheet x = new Sheet();
        x.number(4, -9, 1);
        x.hold(5, CELL, 4);
        x.tableOf(4, 0, 1, new int[] {1, 2}, new int[] {3, 4}, -9, -9, -9, -9);
        x.tableOf(5, 0, 15, new int[] {1, 2}, new int[] {3, 4}, -9, -9, -9, -9);
        x.tableOf(5, 4, 15, new int[] {1, 2}, new int[] {3, 4}, 1, 1, 2, 2);
    }

    private static void tableWraps() {
        Due.part("promise 7 and terms: entries wrap too");
        Sheet x = new Sheet();
        x.hold(2, CELL, 0, CELL, 1, ADD, 0);
        x.tableOf(2, 0, 1, new int[] {GREATEST, LEAST}, new int[] {1, -1}, LEAST, GREATEST - 1, LEAST + 1, GREATEST);
        x.hold(3, CELL, 0, CELL, 1, MUL, 0);
        x.tableOf(3, 0, 1, new int[] {GREATEST, LEAST}, new int[] {2, -1}, -2, LEAST + 1, 0, LEAST);
        x.hold(4, CELL, 2, NUMBER, 20, NUMBER, 30, PICK, 0);
        x.tableOf(4, 0, 1, new int[] {GREATEST, LEAST}, new int[] {1, -1}, 30, 20, 30, 20);
    }

    private static void tableOverLongChains() {
        Due.part("promise 7: out depends on an input cell over all other cells");
        Sheet up = new Sheet();
        for (int c = 1; c < CELLS; c++) {
            up.hold(c, CELL, c - 1, NUMBER, 1, ADD, 0);
        }
        up.tableOf(15, 0, 7, new int[] {100}, new int[] {200}, 208);
        up.tableOf(6, 0, 7, new int[] {100}, new int[] {200}, 106);
        up.tableOf(15, 15, 0, new int[] {100}, new int[] {200}, 100);
        Sheet down = new Sheet();
        for (int c = 14; c >= 0; c--) {
            down.hold(c, CELL, c + 1, NUMBER, 1, ADD, 0);
        }
        down.tableOf(0, 15, 8, new int[] {100}, new int[] {200}, 208);
        down.tableOf(9, 15, 8, new int[] {100}, new int[] {200}, 106);
        down.tableOf(1, 15, 0, new int[] {100, 300}, new int[] {200}, 114, 314);
    }

    private static void tableLeavesTheCells() {
        Due.part("promise 7: 'all cells hold afterwards what they held'");
        Sheet x = new Sheet();
        x.number(0, 3, 1);
        x.hold(1, CELL, 0, NUMBER, 1, ADD, 0);
        x.hold(2, CELL, 0, CELL, 1, ADD, 0);
        x.tableOf(2, 0, 1, new int[] {50, 60}, new int[] {70, 80}, 120, 130, 130, 140);
        x.value(0, 3);
        x.value(1, 4);
        x.value(2, 7);
        x.isFormula(0, false);
        x.isFormula(1, true);
        x.isFormula(2, true);
        x.dependents(0, 2);
        x.dependents(1, 1);
        x.number(0, 3, 0);
        x.number(0, 60, 3);
        x.value(1, 61);
        x.value(2, 121);
    }

    private static void tableForgetsBothLists() {
        Due.part("promise 7: 'Both input lists are forgotten'");
        for (int count = 1; count <= 4; count++) {
            Sheet x = new Sheet();
            sumTable(x, count, 5 - count);
            x.table(15, 0, 1, 0);
            sumTable(x, count, count);
            x.input(true, 1, 1);
            x.input(false, 1, 1);
        }
    }

    private static void tableForgetsTheListsThoughOneIsEmpty() {
        Due.part("promise 7: 'Both input lists are forgotten', also where the table is empty");
        Sheet x = new Sheet();
        x.inputs(true, 1, 2, 3, 4);
        x.table(0, 0, 1, 0);
        x.input(false, 6, 1);
        x.table(0, 0, 1, 0);
        x.input(true, 5, 1);
        x.table(0, 0, 1, 0);
        x.tableOf(0, 0, 1, new int[] {7}, new int[] {8}, 7);
    }

    private static void entryWithin() {
        Due.part("promise 8: 'An entry of the last table', the first and the last");
        Sheet x = new Sheet();
        sumTable(x, 4, 4);
        x.entry(0, 0, 111);
        x.entry(0, 3, 141);
        x.entry(3, 0, 114);
        x.entry(3, 3, 144);
    }

    private static void entryOutside() {
        Due.part("promise 8: '0 if there is no such entry'");
        int[] outside = {-1, 4, 5, 8, 16, -4, LEAST, GREATEST, 1 << 30, 1 << 31, 256, 65536};
        Sheet x = new Sheet();
        sumTable(x, 4, 4);
        for (int place : outside) {
            for (int k = 0; k < 4; k++) {
                x.entry(place, k, 0);
                x.entry(k, place, 0);
            }
            x.entry(place, place, 0);
            x.entry(place, -place, 0);
        }
        Sheet y = new Sheet();
        sumTable(y, 2, 3);
        y.entry(1, 2, 132);
        y.entry(2, 2, 0);
        y.entry(1, 3, 0);
        y.entry(2, 0, 0);
        y.entry(0, 3, 0);
        // A place that is reckoned as one number would take these for entries of the next or the last row.
        y.entry(1, -1, 0);
        y.entry(0, 4, 0);
        y.entry(-1, 4, 0);
        y.entry(-1, 3, 0);
    }

    private static void entryAsWorkedOutThen() {
        Due.part("promise 8: 'as it was worked out then'");
        Sheet x = new Sheet();
        x.number(2, 1000, 1);
        x.hold(15, CELL, 0, CELL, 1, ADD, 0, CELL, 2, ADD, 0);
        x.tableOf(15, 0, 1, new int[] {1, 2}, new int[] {10, 20}, 1011, 1021, 1012, 1022);
        x.number(2, 5, 2);
        x.number(0, 6, 2);
        x.number(1, 7, 2);
        fourEntries(x);
        x.hold(15, NUMBER, 4);
        fourEntries(x);
        x.number(15, 3, 1);
        fourEntries(x);
        x.inputs(true, 8, 9);
        x.inputs(false, 8, 9);
        fourEntries(x);
        x.hold(0, CELL, 1);
        fourEntries(x);
    }

    private static void fourEntries(Sheet x) {
        x.entry(0, 0, 1011);
        x.entry(0, 1, 1021);
        x.entry(1, 0, 1012);
        x.entry(1, 1, 1022);
    }

    private static void entryOfTheLastTable() {
        Due.part("promise 8: 'the last table', not one before it nor one that was refused");
        Sheet x = new Sheet();
        x.tableOf(0, 0, 1, new int[] {1, 2}, new int[] {3}, 1, 2);
        x.tableOf(0, 0, 1, new int[] {5}, new int[] {6}, 5);
        x.entry(1, 0, 0);
        x.inputs(true, 8, 9);
        x.inputs(false, 8, 9);
        x.table(0, 1, 1, BAD_CELL);
        x.table(16, 0, 1, BAD_CELL);
        x.entry(0, 0, 5);
        x.entry(0, 1, 0);
        x.entry(1, 0, 0);
    }
}
