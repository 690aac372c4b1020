public final class WhatIfTables {
    public static final int BAD_CELL = -1;
    public static final int BAD_TOKEN = -2;
    public static final int FULL = -3;
    public static final int UNSOUND = -4;
    public static final int CIRCLE = -5;

    private static final int CELLS = 16;
    private static final int MOST_TOKENS = 8;
    private static final int ALL_TOKENS = CELLS * MOST_TOKENS;
    private static final int MOST_INPUTS = 4;
    private static final int MOST_ENTRIES = MOST_INPUTS * MOST_INPUTS;

    private static final int NUMBER = 0;
    private static final int CELL = 1;
    private static final int ADD = 2;
    private static final int SUB = 3;
    private static final int MUL = 4;
    private static final int MIN = 5;
    private static final int MAX = 6;
    private static final int PICK = 7;

    private final int[] typedKinds = new int[MOST_TOKENS];
    private final int[] typedArguments = new int[MOST_TOKENS];
    private int typedCount;

    // A cell holds a formula exactly if its length is above 0; its number counts only if it doesn't.
    private final int[] numbers = new int[CELLS];
    private final int[] formulaLengths = new int[CELLS];
    // The tokens of cell c begin at c * MOST_TOKENS, as the language allows no array of arrays.
    private final int[] formulaKinds = new int[ALL_TOKENS];
    private final int[] formulaArguments = new int[ALL_TOKENS];
    // Bit c of a cell's entry is set if the cell depends directly on cell c.
    private final int[] directCells = new int[CELLS];

    // Kept true after every change of a cell, so that asking for a value changes nothing.
    private final int[] values = new int[CELLS];
    private final int[] formerValues = new int[CELLS];
    private final int[] trialValues = new int[CELLS];
    private final int[] stack = new int[MOST_TOKENS];

    private final int[] rowInputs = new int[MOST_INPUTS];
    private final int[] columnInputs = new int[MOST_INPUTS];
    private int rowInputCount;
    private int columnInputCount;

    private final int[] entries = new int[MOST_ENTRIES];
    private int tableRows;
    private int tableColumns;

    public WhatIfTables() {
    }

    public int token(int kind, int argument) {
        if (kind < NUMBER || kind > PICK) {
            return BAD_TOKEN;
        }
        if (kind == CELL && !isCell(argument)) {
            return BAD_TOKEN;
        }
        if (typedCount >= MOST_TOKENS) {
            return FULL;
        }
        typedKinds[typedCount] = kind;
        typedArguments[typedCount] = argument;
        typedCount++;
        return typedCount;
    }

    public void clearTokens() {
        typedCount = 0;
    }

    public int formula(int cell) {
        if (!isCell(cell)) {
            return BAD_CELL;
        }
        int answer = judgeTyped(cell);
        if (answer == 0) {
            holdTyped(cell);
            workOutCells(values, 0);
        }
        typedCount = 0;
        return answer;
    }

    public int number(int cell, int value) {
        if (!isCell(cell)) {
            return BAD_CELL;
        }
        for (int c = 0; c < CELLS; c++) {
            formerValues[c] = values[c];
        }
        numbers[cell] = value;
        formulaLengths[cell] = 0;
        directCells[cell] = 0;
        workOutCells(values, 0);
        return countChangedValues();
    }

    public int input(boolean row, int value) {
        if (row) {
            if (rowInputCount >= MOST_INPUTS) {
                return FULL;
            }
            rowInputs[rowInputCount] = value;
            rowInputCount++;
            return rowInputCount;
        }
        if (columnInputCount >= MOST_INPUTS) {
            return FULL;
        }
        columnInputs[columnInputCount] = value;
        columnInputCount++;
        return columnInputCount;
    }

    public int table(int out, int rowCell, int columnCell) {
        if (!isCell(out) || !isCell(rowCell) || !isCell(columnCell) || rowCell == columnCell) {
            return BAD_CELL;
        }
        tableRows = rowInputCount;
        tableColumns = columnInputCount;
        int supposed = (1 << rowCell) | (1 << columnCell);
        for (int i = 0; i < tableRows; i++) {
            for (int j = 0; j < tableColumns; j++) {
                trialValues[rowCell] = rowInputs[i];
                trialValues[columnCell] = columnInputs[j];
                workOutCells(trialValues, supposed);
                entries[i * MOST_INPUTS + j] = trialValues[out];
            }
        }
        rowInputCount = 0;
        columnInputCount = 0;
        return tableRows * tableColumns;
    }

    public int entry(int i, int j) {
        if (i < 0 || i >= tableRows || j < 0 || j >= tableColumns) {
            return 0;
        }
        return entries[i * MOST_INPUTS + j];
    }

    public int value(int cell) {
        return isCell(cell) ? values[cell] : 0;
    }

    public int dependents(int cell) {
        if (!isCell(cell)) {
            return BAD_CELL;
        }
        int reached = cellAndDependents(cell);
        int count = 0;
        for (int c = 0; c < CELLS; c++) {
            if (c != cell && contains(reached, c)) {
                count++;
            }
        }
        return count;
    }

    public boolean isFormula(int cell) {
        return isCell(cell) && formulaLengths[cell] > 0;
    }

    private static boolean isCell(int cell) {
        return cell >= 0 && cell < CELLS;
    }

    private static boolean contains(int cellSet, int cell) {
        return ((cellSet >> cell) & 1) != 0;
    }

    private int judgeTyped(int cell) {
        if (!typedIsSound()) {
            return UNSOUND;
        }
        // No circle stood before, so a new one must run through this cell.
        int forbidden = cellAndDependents(cell);
        int named = cellsNamedByTyped();
        return (named & forbidden) != 0 ? CIRCLE : 0;
    }

    private boolean typedIsSound() {
        int height = 0;
        for (int t = 0; t < typedCount; t++) {
            int popped = popsOf(typedKinds[t]);
            if (height < popped) {
                return false;
            }
            height = height - popped + 1;
        }
        return height == 1;
    }

    private static int popsOf(int kind) {
        if (kind == NUMBER || kind == CELL) {
            return 0;
        }
        return kind == PICK ? 3 : 2;
    }

    private int cellsNamedByTyped() {
        int named = 0;
        for (int t = 0; t < typedCount; t++) {
            if (typedKinds[t] == CELL) {
                named |= 1 << typedArguments[t];
            }
        }
        return named;
    }

    private int cellAndDependents(int cell) {
        int reached = 1 << cell;
        // Each pass reaches one step further, and no chain of dependence is longer than the cells are many.
        for (int pass = 0; pass < CELLS; pass++) {
            for (int c = 0; c < CELLS; c++) {
                if ((directCells[c] & reached) != 0) {
                    reached |= 1 << c;
                }
            }
        }
        return reached;
    }

    private void holdTyped(int cell) {
        int start = cell * MOST_TOKENS;
        for (int t = 0; t < typedCount; t++) {
            formulaKinds[start + t] = typedKinds[t];
            formulaArguments[start + t] = typedArguments[t];
        }
        formulaLengths[cell] = typedCount;
        directCells[cell] = cellsNamedByTyped();
    }

    // The cells of the set 'given' keep what 'results' has for them, whatever they hold.
    private void workOutCells(int[] results, int given) {
        int known = given;
        // Without circles every pass finds a cell whose named cells are all known, until none is left.
        for (int pass = 0; pass < CELLS; pass++) {
            for (int c = 0; c < CELLS; c++) {
                if (!contains(known, c) && (directCells[c] & ~known) == 0) {
                    results[c] = formulaLengths[c] > 0 ? workOffFormula(c, results) : numbers[c];
                    known |= 1 << c;
                }
            }
        }
    }

    private int workOffFormula(int cell, int[] results) {
        int start = cell * MOST_TOKENS;
        int height = 0;
        for (int t = 0; t < formulaLengths[cell]; t++) {
            int kind = formulaKinds[start + t];
            int argument = formulaArguments[start + t];
            // Only sound formulas are held, so the numbers popped here are always there.
            height -= popsOf(kind);
            if (kind == NUMBER) {
                stack[height] = argument;
            } else if (kind == CELL) {
                stack[height] = results[argument];
            } else if (kind == PICK) {
                stack[height] = stack[height] > 0 ? stack[height + 1] : stack[height + 2];
            } else {
                stack[height] = combine(kind, stack[height], stack[height + 1]);
            }
            height++;
        }
        return stack[0];
    }

    private static int combine(int kind, int x, int y) {
        switch (kind) {
            case ADD:
                return x + y;
            case SUB:
                return x - y;
            case MUL:
                return x * y;
            case MIN:
                return x < y ? x : y;
            case MAX:
            default:
                return x > y ? x : y;
        }
    }

    private int countChangedValues() {
        int changed = 0;
        for (int c = 0; c < CELLS; c++) {
            if (values[c] != formerValues[c]) {
                changed++;
            }
        }
        return changed;
    }
}
