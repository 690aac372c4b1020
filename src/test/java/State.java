import java.util.function.Consumer;

/** All that an object with a given past can show, as text, so that two pasts can be told apart. */
final class State implements Words {
    private static final int MOST_LOOKING = 200;

    private State() {
    }

    static String all(Consumer<Sheet> past) {
        return cells(past) + tokens(past) + inputs(past) + table(past);
    }

    // Looking at typed tokens and at inputs uses them up, so every look begins with the past anew.
    private static WhatIfTables after(Consumer<Sheet> past) {
        Sheet sheet = new Sheet();
        past.accept(sheet);
        if (sheet.calls() > MOST_CALLS - MOST_LOOKING) {
            Due.same("calls before the look", sheet.calls(), MOST_CALLS - MOST_LOOKING);
        }
        return sheet.tables();
    }

    /** What the cells hold: a formula shows by what becomes of its value when other cells change. */
    static String cells(Consumer<Sheet> past) {
        StringBuilder text = new StringBuilder();
        text.append(shown("cells", after(past)));
        for (int c = 0; c < CELLS; c++) {
            WhatIfTables x = after(past);
            String call = "number(" + c + ", 1000)";
            text.append(call).append(" answers ").append(x.number(c, 1000)).append('\n').append(shown(call, x));
        }
        WhatIfTables x = after(past);
        for (int c = 0; c < CELLS; c++) {
            if (!x.isFormula(c)) {
                x.number(c, 7 * c - 20);
            }
        }
        text.append(shown("other numbers", x));
        return text.toString();
    }

    private static String shown(String when, WhatIfTables x) {
        StringBuilder text = new StringBuilder();
        for (int c = 0; c < CELLS; c++) {
            text.append(when).append(": cell ").append(c).append(" has value ").append(x.value(c)).append(", dependents ")
                .append(x.dependents(c)).append(x.isFormula(c) ? ", a formula\n" : ", a number\n");
        }
        return text.toString();
    }

    /** How many tokens are typed, and which: they show by the formulas that they make, alone and with more behind them. */
    static String tokens(Consumer<Sheet> past) {
        StringBuilder text = new StringBuilder();
        WhatIfTables x = after(past);
        for (int k = 0; k < 9; k++) {
            text.append("one token more answers ").append(x.token(NUMBER, 0)).append('\n');
        }
        int[] kinds = {SUB, MUL, PICK};
        for (int kind : kinds) {
            for (int more = 0; more <= 4; more++) {
                text.append(formulaOf(past, kind, more, 0)).append(formulaOf(past, kind, more, CELLS - 1));
            }
        }
        return text.toString();
    }

    private static String formulaOf(Consumer<Sheet> past, int kind, int more, int cell) {
        WhatIfTables x = after(past);
        for (int k = 0; k < more; k++) {
            x.token(kind, 0);
        }
        String call = "formula(" + cell + ") with " + more + " tokens " + kind + " more";
        return call + " answers " + x.formula(cell) + "\n" + shown(call, x);
    }

    /** How many inputs both lists have, and which: a table of an input's own cell has the inputs as its entries. */
    static String inputs(Consumer<Sheet> past) {
        StringBuilder text = new StringBuilder();
        text.append(oneInputMore(past, true)).append(oneInputMore(past, false));
        text.append(tableOfInputs(past, 0)).append(tableOfInputs(past, 1));
        return text.toString();
    }

    private static String oneInputMore(Consumer<Sheet> past, boolean row) {
        StringBuilder text = new StringBuilder();
        WhatIfTables x = after(past);
        for (int k = 0; k < 5; k++) {
            text.append("input(").append(row).append(", 7) answers ").append(x.input(row, 7)).append('\n');
        }
        return text.toString();
    }

    // An input more only where the list is empty: a call that is refused here could hide what one before it did.
    private static String tableOfInputs(Consumer<Sheet> past, int out) {
        boolean noRows = after(past).input(true, 500) == 1;
        boolean noColumns = after(past).input(false, 600) == 1;
        WhatIfTables x = after(past);
        if (noRows) {
            x.input(true, 500);
        }
        if (noColumns) {
            x.input(false, 600);
        }
        String call = "table(" + out + ", 0, 1) of the inputs";
        return call + " answers " + x.table(out, 0, 1) + "\n" + entries(call, x);
    }

    static String table(Consumer<Sheet> past) {
        return entries("table", after(past));
    }

    private static String entries(String when, WhatIfTables x) {
        StringBuilder text = new StringBuilder();
        for (int i = -1; i <= 4; i++) {
            for (int j = -1; j <= 4; j++) {
                text.append(when).append(": entry(").append(i).append(", ").append(j).append(") is ").append(x.entry(i, j)).append('\n');
            }
        }
        return text.toString();
    }
}
