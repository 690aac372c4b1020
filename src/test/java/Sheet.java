/** A new WhatIfTables of which every answer is compared with the one that is due, the last argument of each call. */
final class Sheet implements Words {
    private final WhatIfTables tables = new WhatIfTables();
    private int calls = 0;

    // What an object answers after its 512th call is free, so a test that goes on shows nothing.
    private WhatIfTables call() {
        calls++;
        if (calls > MOST_CALLS) {
            Due.same("calls of one object", calls, MOST_CALLS);
        }
        return tables;
    }

    int calls() {
        return calls;
    }

    /** The object itself, for calls whose answers are not known beforehand. */
    WhatIfTables tables() {
        return tables;
    }

    void token(int kind, int argument, int due) {
        Due.same("token(" + kind + ", " + argument + ")", call().token(kind, argument), due);
    }

    void clearTokens() {
        call().clearTokens();
    }

    void formula(int cell, int due) {
        Due.same("formula(" + cell + ")", call().formula(cell), due);
    }

    void number(int cell, int value, int due) {
        Due.same("number(" + cell + ", " + value + ")", call().number(cell, value), due);
    }

    void input(boolean row, int value, int due) {
        Due.same("input(" + row + ", " + value + ")", call().input(row, value), due);
    }

    void table(int out, int rowCell, int columnCell, int due) {
        Due.same("table(" + out + ", " + rowCell + ", " + columnCell + ")", call().table(out, rowCell, columnCell), due);
    }

    void entry(int i, int j, int due) {
        Due.same("entry(" + i + ", " + j + ")", call().entry(i, j), due);
    }

    void value(int cell, int due) {
        Due.same("value(" + cell + ")", call().value(cell), due);
    }

    void dependents(int cell, int due) {
        Due.same("dependents(" + cell + ")", call().dependents(cell), due);
    }

    void isFormula(int cell, boolean due) {
        Due.same("isFormula(" + cell + ")", call().isFormula(cell), due);
    }

    /** Types pairs of kind and argument where no tokens are typed; every one must be taken. */
    void type(int... pairs) {
        for (int k = 0; k < pairs.length; k += 2) {
            token(pairs[k], pairs[k + 1], k / 2 + 1);
        }
    }

    /** Types the tokens, and the cell must take them as its formula. */
    void hold(int cell, int... pairs) {
        type(pairs);
        formula(cell, 0);
    }

    /** Types the tokens, and the cell must refuse them with the answer that is due. */
    void refuse(int cell, int due, int... pairs) {
        type(pairs);
        formula(cell, due);
    }

    /** Types inputs into an empty list; every one must be taken. */
    void inputs(boolean row, int... numbers) {
        for (int k = 0; k < numbers.length; k++) {
            input(row, numbers[k], k + 1);
        }
    }

    /** A table over new inputs: types them, works it out, and looks at every entry, which are due row by row. */
    void tableOf(int out, int rowCell, int columnCell, int[] rows, int[] columns, int... due) {
        inputs(true, rows);
        inputs(false, columns);
        table(out, rowCell, columnCell, rows.length * columns.length);
        for (int k = 0; k < due.length; k++) {
            entry(k / columns.length, k % columns.length, due[k]);
        }
    }
}
