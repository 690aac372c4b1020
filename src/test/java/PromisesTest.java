/** For each promise: ordinary inputs, the edges that the document names, and wrong inputs. */
public final class PromisesTest {
    private static final int NUMBER = 0;
    private static final int CELL = 1;
    private static final int ADD = 2;
    private static final int SUB = 3;
    private static final int MUL = 4;
    private static final int MIN = 5;
    private static final int MAX = 6;
    private static final int PICK = 7;

    private static final int LEAST = Integer.MIN_VALUE;
    private static final int GREATEST = Integer.MAX_VALUE;
    private static final int[] NO_CELLS = {-1, 16, 17, 32, 256, -16, LEAST, GREATEST};

    public static void main(String[] args) {
        newObject();
        objectsApart();
        tokenCounts();
        tokenRefuses();
        clearTokensForgets();
        formulaHolds();
        formulaWorksOffEachKind();
        formulaWraps();
        formulaRefusesBadCell();
        formulaRefusesUnsound();
        formulaRefusesCircle();
        formulaCircleLooksAtNewFormulaOnly();
        formulaTestsInOrder();
        formulaForgetsTokens();
        numberCountsChanges();
        numberReplacesFormula();
        numberRefusesBadCell();
        inputCounts();
        tableWorksOut();
        tableOverFormulaCells();
        tableOutIsAnInputCell();
        tableChangesNothingElse();
        tableForgetsInputs();
        tableWithEmptyLists();
        tableRefuses();
        entryStaysAsWorkedOut();
        entryOutsideTable();
        valueFollowsChain();
        dependentsCount();
        isFormulaAnswers();
        tokenOrder();
        Due.end();
    }

    // Types the pairs of kind and argument; every one must be taken.
    private static void type(WhatIfTables x, int... pairs) {
        for (int k = 0; k < pairs.length; k += 2) {
            int got = x.token(pairs[k], pairs[k + 1]);
            Due.same("token(" + pairs[k] + ", " + pairs[k + 1] + ")", got, k / 2 + 1);
        }
    }

    private static void hold(WhatIfTables x, int cell, int... pairs) {
        type(x, pairs);
        Due.same("formula(" + cell + ")", x.formula(cell), 0);
    }

    private static void refuse(WhatIfTables x, int cell, int want, int... pairs) {
        type(x, pairs);
        Due.same("formula(" + cell + ")", x.formula(cell), want);
    }

    private static void number(WhatIfTables x, int cell, int value, int want) {
        Due.same("number(" + cell + ", " + value + ")", x.number(cell, value), want);
    }

    private static void value(WhatIfTables x, int cell, int want) {
        Due.same("value(" + cell + ")", x.value(cell), want);
    }

    private static void inputs(WhatIfTables x, boolean row, int... numbers) {
        for (int k = 0; k < numbers.length; k++) {
            Due.same("input(" + row + ", " + numbers[k] + ")", x.input(row, numbers[k]), k + 1);
        }
    }

    private static void table(WhatIfTables x, int out, int rowCell, int columnCell, int want) {
        Due.same("table(" + out + ", " + rowCell + ", " + columnCell + ")", x.table(out, rowCell, columnCell), want);
    }

    private static void entry(WhatIfTables x, int i, int j, int want) {
        Due.same("entry(" + i + ", " + j + ")", x.entry(i, j), want);
    }

    private static void dependents(WhatIfTables x, int cell, int want) {
        Due.same("dependents(" + cell + ")", x.dependents(cell), want);
    }

    private static void isFormula(WhatIfTables x, int cell, boolean want) {
        Due.same("isFormula(" + cell + ")", x.isFormula(cell), want);
    }

    private static void newObject() {
        Due.part("promise 1, new object");
        WhatIfTables x = new WhatIfTables();
        for (int c = 0; c < 16; c++) {
            value(x, c, 0);
            isFormula(x, c, false);
            dependents(x, c, 0);
        }
        for (int i = 0; i < 4; i++) {
            for (int j = 0; j < 4; j++) {
                entry(x, i, j, 0);
            }
        }
        refuse(x, 0, WhatIfTables.UNSOUND);
        table(x, 0, 1, 2, 0);
        Due.same("token(0, 5)", x.token(NUMBER, 5), 1);
        Due.same("input(true, 5)", x.input(true, 5), 1);
        Due.same("input(false, 5)", x.input(false, 5), 1);
    }

    private static void objectsApart() {
        Due.part("promise 1, two objects share nothing");
        WhatIfTables x = new WhatIfTables();
        WhatIfTables y = new WhatIfTables();
        number(x, 3, 9, 1);
        hold(x, 4, CELL, 3);
        inputs(x, true, 1);
        x.token(NUMBER, 1);
        value(y, 3, 0);
        isFormula(y, 4, false);
        inputs(y, true, 1);
        type(y, NUMBER, 1);
    }

    private static void tokenCounts() {
        Due.part("promise 2, token");
        WhatIfTables x = new WhatIfTables();
        for (int kind = 0; kind <= 7; kind++) {
            Due.same("token(" + kind + ", 15)", x.token(kind, 15), kind + 1);
        }
        Due.same("ninth token", x.token(NUMBER, 0), WhatIfTables.FULL);
        Due.same("tenth token", x.token(ADD, 0), WhatIfTables.FULL);
        x.clearTokens();
        for (int kind = 2; kind <= 7; kind++) {
            Due.same("token(" + kind + ", LEAST)", x.token(kind, LEAST), kind - 1);
        }
        x.clearTokens();
        type(x, NUMBER, LEAST, NUMBER, GREATEST, NUMBER, -1, NUMBER, 16, CELL, 0, CELL, 15, ADD, -1, PICK, 16);

        Due.part("promise 2, a token too many changes nothing");
        WhatIfTables y = new WhatIfTables();
        type(y, NUMBER, 1, NUMBER, 2, ADD, 0, NUMBER, 3, ADD, 0, NUMBER, 4, ADD, 0, NUMBER, 5);
        Due.same("ninth token", y.token(ADD, 0), WhatIfTables.FULL);
        refuse(y, 0, WhatIfTables.UNSOUND);
        hold(y, 0, NUMBER, 1, NUMBER, 2, ADD, 0, NUMBER, 3, ADD, 0, NUMBER, 4, NUMBER, 0, PICK, 0);
        value(y, 0, 4);
    }

    private static void tokenRefuses() {
        Due.part("promise 2, bad tokens");
        WhatIfTables x = new WhatIfTables();
        type(x, NUMBER, 7);
        int[] noKinds = {-1, 8, 9, 16, LEAST, GREATEST};
        for (int kind : noKinds) {
            Due.same("token(" + kind + ", 0)", x.token(kind, 0), WhatIfTables.BAD_TOKEN);
        }
        for (int cell : NO_CELLS) {
            Due.same("token(1, " + cell + ")", x.token(CELL, cell), WhatIfTables.BAD_TOKEN);
        }
        Due.same("formula(2)", x.formula(2), 0);
        value(x, 2, 7);
    }

    private static void clearTokensForgets() {
        Due.part("promise 3, clearTokens");
        WhatIfTables x = new WhatIfTables();
        x.clearTokens();
        type(x, NUMBER, 7, NUMBER, 8);
        x.clearTokens();
        refuse(x, 0, WhatIfTables.UNSOUND);
        type(x, NUMBER, 7, NUMBER, 8);
        x.clearTokens();
        x.clearTokens();
        hold(x, 0, NUMBER, 9);
        value(x, 0, 9);

        Due.part("promise 3, clearTokens leaves the rest");
        inputs(x, true, 1);
        inputs(x, false, 2);
        table(x, 1, 1, 2, 1);
        inputs(x, true, 3, 4);
        inputs(x, false, 5);
        x.clearTokens();
        value(x, 0, 9);
        isFormula(x, 0, true);
        entry(x, 0, 0, 1);
        Due.same("input(true, 6)", x.input(true, 6), 3);
        Due.same("input(false, 6)", x.input(false, 6), 2);
    }

    private static void formulaHolds() {
        Due.part("promise 4, formula instead of a number and of a formula");
        WhatIfTables x = new WhatIfTables();
        number(x, 0, 6, 1);
        number(x, 15, 4, 1);
        hold(x, 15, CELL, 0, NUMBER, 2, MUL, 0);
        value(x, 15, 12);
        isFormula(x, 15, true);
        hold(x, 15, NUMBER, 5);
        value(x, 15, 5);
        isFormula(x, 15, true);
        dependents(x, 0, 0);

        Due.part("promise 4, a formula of the same length and a longer one");
        hold(x, 15, NUMBER, 1, NUMBER, 2, SUB, 0);
        value(x, 15, -1);
        hold(x, 14, NUMBER, 1, NUMBER, 2, NUMBER, 3, NUMBER, 4, ADD, 0, ADD, 0, ADD, 0);
        value(x, 14, 10);
        value(x, 15, -1);

        Due.part("promise 4, eight tokens");
        hold(x, 0, CELL, 14, NUMBER, 3, NUMBER, 4, PICK, 0, NUMBER, 5, NUMBER, 6, MUL, 0, SUB, 0);
        value(x, 0, -27);
        hold(x, 1, NUMBER, 0, NUMBER, 1, NUMBER, 2, NUMBER, 3, NUMBER, 4, PICK, 0, PICK, 0);
        value(x, 1, 3);
    }

    private static void formulaWorksOffEachKind() {
        Due.part("promise 4, each kind of token");
        int[][] pairs = {{7, 3}, {3, 7}, {-7, 3}, {3, -7}, {0, 0}, {5, 5}, {-2, -9}, {LEAST, GREATEST}, {GREATEST, LEAST}, {LEAST, 1}};
        for (int[] pair : pairs) {
            int a = pair[0];
            int b = pair[1];
            eachKind(a, b);
        }
        int[] conditions = {1, 0, -1, 2, GREATEST, LEAST};
        for (int condition : conditions) {
            WhatIfTables x = new WhatIfTables();
            hold(x, 0, NUMBER, condition, NUMBER, 20, NUMBER, 30, PICK, 0);
            value(x, 0, condition > 0 ? 20 : 30);
        }
    }

    private static void eachKind(int a, int b) {
        WhatIfTables x = new WhatIfTables();
        x.number(0, a);
        hold(x, ADD, CELL, 0, NUMBER, b, ADD, 9);
        hold(x, SUB, CELL, 0, NUMBER, b, SUB, 9);
        hold(x, MUL, CELL, 0, NUMBER, b, MUL, 9);
        hold(x, MIN, CELL, 0, NUMBER, b, MIN, 9);
        hold(x, MAX, CELL, 0, NUMBER, b, MAX, 9);
        hold(x, 1, CELL, 0);
        hold(x, 8, NUMBER, b);
        value(x, ADD, a + b);
        value(x, SUB, a - b);
        value(x, MUL, a * b);
        value(x, MIN, Math.min(a, b));
        value(x, MAX, Math.max(a, b));
        value(x, 1, a);
        value(x, 8, b);
    }

    private static void formulaWraps() {
        Due.part("terms, arithmetic wraps");
        WhatIfTables x = new WhatIfTables();
        hold(x, 0, NUMBER, GREATEST, NUMBER, 1, ADD, 0);
        hold(x, 1, NUMBER, LEAST, NUMBER, 1, SUB, 0);
        hold(x, 2, NUMBER, 65536, NUMBER, 65536, MUL, 0);
        hold(x, 3, NUMBER, LEAST, NUMBER, -1, MUL, 0);
        value(x, 0, LEAST);
        value(x, 1, GREATEST);
        value(x, 2, 0);
        value(x, 3, LEAST);
    }

    private static void formulaRefusesBadCell() {
        Due.part("promise 4, BAD_CELL keeps the tokens");
        WhatIfTables x = new WhatIfTables();
        type(x, NUMBER, 3, NUMBER, 4);
        for (int cell : NO_CELLS) {
            Due.same("formula(" + cell + ")", x.formula(cell), WhatIfTables.BAD_CELL);
        }
        Due.same("token(2, 0)", x.token(ADD, 0), 3);
        Due.same("formula(15)", x.formula(15), 0);
        value(x, 15, 7);
    }

    private static void formulaRefusesUnsound() {
        Due.part("promise 4, UNSOUND");
        int[][] unsound = {
            {},
            {ADD, 0},
            {PICK, 0},
            {NUMBER, 1, NUMBER, 2},
            {NUMBER, 1, ADD, 0},
            {NUMBER, 1, PICK, 0},
            {NUMBER, 1, NUMBER, 2, PICK, 0},
            {NUMBER, 1, NUMBER, 2, NUMBER, 3, ADD, 0},
            {NUMBER, 1, NUMBER, 2, NUMBER, 3, NUMBER, 4, PICK, 0},
            {NUMBER, 1, ADD, 0, NUMBER, 2},
            {ADD, 0, NUMBER, 1, NUMBER, 2},
            {ADD, 0, NUMBER, 1, NUMBER, 1},
            {SUB, 0, NUMBER, 1},
            {PICK, 0, NUMBER, 1, NUMBER, 2, NUMBER, 3},
            {NUMBER, 1, NUMBER, 2, PICK, 0, NUMBER, 3},
            {NUMBER, 1, NUMBER, 2, ADD, 0, ADD, 0},
            {NUMBER, 1, NUMBER, 2, ADD, 0, MUL, 0, NUMBER, 3},
            {CELL, 1, CELL, 2},
            {NUMBER, 1, NUMBER, 1, NUMBER, 1, NUMBER, 1, NUMBER, 1, NUMBER, 1, NUMBER, 1, NUMBER, 1},
            {ADD, 0, ADD, 0, ADD, 0, ADD, 0, ADD, 0, ADD, 0, ADD, 0, ADD, 0},
        };
        WhatIfTables x = new WhatIfTables();
        x.number(5, 8);
        hold(x, 6, CELL, 5, NUMBER, 1, ADD, 0);
        for (int[] tokens : unsound) {
            refuse(x, 5, WhatIfTables.UNSOUND, tokens);
            value(x, 5, 8);
            isFormula(x, 5, false);
            refuse(x, 6, WhatIfTables.UNSOUND, tokens);
            value(x, 6, 9);
            isFormula(x, 6, true);
        }
        dependents(x, 5, 1);
        for (int kind = ADD; kind <= MAX; kind++) {
            refuse(x, 5, WhatIfTables.UNSOUND, NUMBER, 1, kind, 0);
            refuse(x, 5, WhatIfTables.UNSOUND, kind, 0);
            hold(x, 7, NUMBER, 1, NUMBER, 1, kind, 0);
        }
    }

    private static void formulaRefusesCircle() {
        Due.part("promise 4, CIRCLE");
        WhatIfTables x = new WhatIfTables();
        x.number(3, 4);
        refuse(x, 3, WhatIfTables.CIRCLE, CELL, 3);
        refuse(x, 3, WhatIfTables.CIRCLE, NUMBER, 1, CELL, 3, ADD, 0);
        value(x, 3, 4);
        isFormula(x, 3, false);

        Due.part("promise 4, CIRCLE in the part that PICK throws away");
        refuse(x, 3, WhatIfTables.CIRCLE, NUMBER, 1, NUMBER, 2, CELL, 3, PICK, 0);
        refuse(x, 3, WhatIfTables.CIRCLE, NUMBER, 0, CELL, 3, NUMBER, 2, PICK, 0);
        hold(x, 4, NUMBER, 1, NUMBER, 2, CELL, 3, PICK, 0);
        refuse(x, 3, WhatIfTables.CIRCLE, NUMBER, 1, NUMBER, 2, CELL, 4, PICK, 0);
        value(x, 3, 4);
        value(x, 4, 2);

        Due.part("promise 4, CIRCLE over all sixteen cells");
        longCircle(1);
        longCircle(15);
    }

    // Each cell names the one that is 'step' further, so that the chain runs up or down the cell numbers.
    private static void longCircle(int step) {
        WhatIfTables x = new WhatIfTables();
        int cell = 0;
        for (int k = 0; k < 15; k++) {
            int next = (cell + step) % 16;
            hold(x, cell, CELL, next, NUMBER, 1, ADD, 0);
            cell = next;
        }
        refuse(x, cell, WhatIfTables.CIRCLE, CELL, 0);
        isFormula(x, cell, false);
        dependents(x, cell, 15);
        value(x, 0, 15);
        number(x, cell, 100, 16);
        value(x, 0, 115);
    }

    private static void formulaCircleLooksAtNewFormulaOnly() {
        Due.part("promise 4, the old formula makes no circle");
        WhatIfTables x = new WhatIfTables();
        hold(x, 0, CELL, 1);
        hold(x, 1, CELL, 2);
        refuse(x, 2, WhatIfTables.CIRCLE, CELL, 0);
        hold(x, 1, NUMBER, 5);
        hold(x, 2, CELL, 0);
        value(x, 2, 5);
        refuse(x, 0, WhatIfTables.CIRCLE, CELL, 2);
        hold(x, 0, CELL, 3);
        hold(x, 1, CELL, 0);
        hold(x, 1, CELL, 0, CELL, 2, ADD, 0);
        number(x, 0, 7, 3);
        value(x, 1, 14);

        Due.part("promise 4, a number's old formula makes no circle");
        WhatIfTables y = new WhatIfTables();
        hold(y, 8, CELL, 9);
        number(y, 8, 2, 1);
        hold(y, 9, CELL, 8);
        value(y, 9, 2);

        Due.part("promise 4, the argument of other kinds than CELL names nothing");
        WhatIfTables z = new WhatIfTables();
        hold(z, 3, NUMBER, 3, NUMBER, 3, ADD, 3);
        value(z, 3, 6);
        dependents(z, 3, 0);
        hold(z, 2, CELL, 5, CELL, 5, MUL, 2);
        dependents(z, 2, 0);
        dependents(z, 5, 1);
    }

    private static void formulaTestsInOrder() {
        Due.part("promise 4, order of the tests");
        WhatIfTables x = new WhatIfTables();
        refuse(x, 16, WhatIfTables.BAD_CELL);
        refuse(x, -1, WhatIfTables.BAD_CELL, ADD, 0);
        x.clearTokens();
        refuse(x, 3, WhatIfTables.UNSOUND, CELL, 3, CELL, 3);
        refuse(x, 3, WhatIfTables.UNSOUND, CELL, 3, ADD, 0);
    }

    private static void formulaForgetsTokens() {
        Due.part("promise 4, tokens are forgotten");
        WhatIfTables x = new WhatIfTables();
        hold(x, 0, NUMBER, 1);
        Due.same("token after 0", x.token(NUMBER, 1), 1);
        x.token(NUMBER, 2);
        Due.same("formula(0)", x.formula(0), WhatIfTables.UNSOUND);
        Due.same("token after UNSOUND", x.token(CELL, 4), 1);
        Due.same("formula(4)", x.formula(4), WhatIfTables.CIRCLE);
        Due.same("token after CIRCLE", x.token(NUMBER, 4), 1);

        Due.part("promise 4, inputs and table stay");
        inputs(x, true, 1);
        inputs(x, false, 2);
        table(x, 5, 5, 6, 1);
        inputs(x, true, 3, 4);
        Due.same("formula(5)", x.formula(5), 0);
        entry(x, 0, 0, 1);
        Due.same("input(true, 5)", x.input(true, 5), 3);
    }

    private static void numberCountsChanges() {
        Due.part("promise 5, number");
        WhatIfTables x = new WhatIfTables();
        number(x, 0, 0, 0);
        number(x, 0, GREATEST, 1);
        number(x, 0, GREATEST, 0);
        number(x, 0, 3, 1);
        number(x, 15, LEAST, 1);
        value(x, 15, LEAST);
        hold(x, 1, CELL, 0, NUMBER, 5, MIN, 0);
        hold(x, 2, CELL, 1);
        hold(x, 3, CELL, 0, CELL, 0, SUB, 0);
        number(x, 0, 4, 3);
        number(x, 0, 5, 3);
        number(x, 0, 6, 1);
        number(x, 0, 7, 1);
        number(x, 0, 1, 3);
        value(x, 2, 1);
        value(x, 3, 0);

        Due.part("promise 5, only values that differ count");
        WhatIfTables y = new WhatIfTables();
        hold(y, 1, CELL, 0, CELL, 0, MUL, 0);
        hold(y, 2, CELL, 1, CELL, 0, ADD, 0);
        number(y, 0, 2, 3);
        number(y, 0, -2, 2);
        number(y, 0, -3, 3);
    }

    private static void numberReplacesFormula() {
        Due.part("promise 5, number instead of a formula");
        WhatIfTables x = new WhatIfTables();
        number(x, 0, 5, 1);
        hold(x, 1, CELL, 0);
        hold(x, 2, CELL, 1);
        number(x, 1, 5, 0);
        isFormula(x, 1, false);
        dependents(x, 0, 0);
        dependents(x, 1, 1);
        number(x, 0, 6, 1);
        value(x, 1, 5);
        value(x, 2, 5);
        number(x, 1, 9, 2);
        value(x, 2, 9);
        hold(x, 1, CELL, 0);
        value(x, 2, 6);
        number(x, 1, 9, 2);
    }

    private static void numberRefusesBadCell() {
        Due.part("promise 5, BAD_CELL");
        WhatIfTables x = new WhatIfTables();
        for (int cell : NO_CELLS) {
            number(x, cell, 7, WhatIfTables.BAD_CELL);
        }
        for (int c = 0; c < 16; c++) {
            value(x, c, 0);
        }

        Due.part("promise 5, tokens, inputs and table stay");
        inputs(x, true, 1);
        inputs(x, false, 2);
        table(x, 5, 5, 6, 1);
        inputs(x, true, 3);
        inputs(x, false, 3);
        type(x, NUMBER, 1);
        number(x, 5, 2, 1);
        number(x, 16, 2, WhatIfTables.BAD_CELL);
        entry(x, 0, 0, 1);
        Due.same("token(0, 1)", x.token(NUMBER, 1), 2);
        Due.same("input(true, 5)", x.input(true, 5), 2);
        Due.same("input(false, 5)", x.input(false, 5), 2);
    }

    private static void inputCounts() {
        Due.part("promise 6, input");
        WhatIfTables x = new WhatIfTables();
        inputs(x, true, 5, LEAST, GREATEST);
        inputs(x, false, 0, 0);
        Due.same("fourth row input", x.input(true, 7), 4);
        Due.same("fifth row input", x.input(true, 8), WhatIfTables.FULL);
        Due.same("sixth row input", x.input(true, 9), WhatIfTables.FULL);
        Due.same("third column input", x.input(false, 3), 3);
        Due.same("fourth column input", x.input(false, 4), 4);
        Due.same("fifth column input", x.input(false, 9), WhatIfTables.FULL);
        hold(x, 2, CELL, 0, CELL, 1, SUB, 0);
        table(x, 2, 0, 1, 16);
        int[] rows = {5, LEAST, GREATEST, 7};
        int[] columns = {0, 0, 3, 4};
        for (int i = 0; i < 4; i++) {
            for (int j = 0; j < 4; j++) {
                entry(x, i, j, rows[i] - columns[j]);
            }
        }
    }

    private static void tableWorksOut() {
        Due.part("promise 7, table");
        WhatIfTables x = new WhatIfTables();
        number(x, 0, 100, 1);
        number(x, 1, 200, 1);
        number(x, 2, 1000, 1);
        hold(x, 3, CELL, 0, CELL, 2, ADD, 0);
        hold(x, 4, CELL, 3, CELL, 1, SUB, 0);
        inputs(x, true, 1, 2, 3);
        inputs(x, false, 10, 20);
        table(x, 4, 0, 1, 6);
        for (int i = 0; i < 3; i++) {
            for (int j = 0; j < 2; j++) {
                entry(x, i, j, i + 1 + 1000 - 10 * (j + 1));
            }
        }
        Due.part("promise 7, more columns than rows, and the cells the other way round");
        inputs(x, true, 1);
        inputs(x, false, 10, 20, 30, 40);
        table(x, 4, 1, 0, 4);
        for (int j = 0; j < 4; j++) {
            entry(x, 0, j, 10 * (j + 1) + 1000 - 1);
        }
        entry(x, 1, 0, 0);
        entry(x, 2, 1, 0);

        Due.part("promise 7, a cell that depends on neither");
        inputs(x, true, 1, 2);
        inputs(x, false, 3);
        table(x, 2, 0, 1, 2);
        entry(x, 0, 0, 1000);
        entry(x, 1, 0, 1000);
    }

    private static void tableOverFormulaCells() {
        Due.part("promise 7, a formula cell is taken as a number");
        WhatIfTables x = new WhatIfTables();
        number(x, 0, 3, 1);
        hold(x, 1, CELL, 0, NUMBER, 10, MUL, 0);
        hold(x, 2, CELL, 0, CELL, 1, ADD, 0);
        inputs(x, true, 5, 6);
        inputs(x, false, 1, -1);
        table(x, 2, 0, 1, 4);
        entry(x, 0, 0, 6);
        entry(x, 0, 1, 4);
        entry(x, 1, 0, 7);
        entry(x, 1, 1, 5);
        inputs(x, true, 5, 6);
        inputs(x, false, 1, -1);
        table(x, 2, 1, 0, 4);
        entry(x, 1, 1, 5);
        inputs(x, true, 8);
        inputs(x, false, 9);
        table(x, 2, 1, 15, 1);
        entry(x, 0, 0, 11);

        Due.part("promise 7, a cell between the row cell and out is cut off");
        hold(x, 3, CELL, 2);
        inputs(x, true, 50);
        inputs(x, false, 60);
        table(x, 3, 0, 2, 1);
        entry(x, 0, 0, 60);
        isFormula(x, 1, true);
        isFormula(x, 2, true);
        value(x, 3, 33);
    }

    private static void tableOutIsAnInputCell() {
        Due.part("promise 7, out is the row cell or the column cell");
        WhatIfTables x = new WhatIfTables();
        hold(x, 7, CELL, 8);
        hold(x, 8, NUMBER, 4);
        inputs(x, true, 1, 2);
        inputs(x, false, 3, 4);
        table(x, 7, 7, 8, 4);
        entry(x, 0, 0, 1);
        entry(x, 0, 1, 1);
        entry(x, 1, 0, 2);
        entry(x, 1, 1, 2);
        inputs(x, true, 1, 2);
        inputs(x, false, 3, 4);
        table(x, 8, 7, 8, 4);
        entry(x, 0, 0, 3);
        entry(x, 0, 1, 4);
        entry(x, 1, 0, 3);
        entry(x, 1, 1, 4);
        value(x, 7, 4);
        value(x, 8, 4);
    }

    private static void tableChangesNothingElse() {
        Due.part("promise 7, all cells hold afterwards what they held");
        WhatIfTables x = new WhatIfTables();
        number(x, 0, 3, 1);
        hold(x, 1, CELL, 0);
        hold(x, 2, CELL, 1, CELL, 0, ADD, 0);
        type(x, NUMBER, 1);
        inputs(x, true, 50);
        inputs(x, false, 60);
        table(x, 2, 0, 1, 1);
        entry(x, 0, 0, 110);
        value(x, 0, 3);
        value(x, 1, 3);
        value(x, 2, 6);
        isFormula(x, 0, false);
        isFormula(x, 1, true);
        dependents(x, 0, 2);
        Due.same("token(0, 1)", x.token(NUMBER, 1), 2);
        number(x, 0, 3, 0);
        number(x, 0, 50, 3);
        value(x, 2, 100);
    }

    private static void tableForgetsInputs() {
        Due.part("promise 7, both lists are forgotten");
        WhatIfTables x = new WhatIfTables();
        inputs(x, true, 1, 2, 3, 4);
        inputs(x, false, 5, 6, 7, 8);
        table(x, 0, 0, 1, 16);
        inputs(x, true, 9);
        inputs(x, false, 10);
        table(x, 0, 0, 1, 1);
        entry(x, 0, 0, 9);
        entry(x, 0, 1, 0);
        entry(x, 1, 0, 0);
        table(x, 0, 0, 1, 0);
        entry(x, 0, 0, 0);
    }

    private static void tableWithEmptyLists() {
        Due.part("promise 7, an empty list");
        WhatIfTables x = new WhatIfTables();
        inputs(x, true, 1, 2);
        inputs(x, false, 3);
        table(x, 0, 0, 1, 2);
        entry(x, 1, 0, 2);
        inputs(x, true, 1, 2);
        table(x, 0, 0, 1, 0);
        entry(x, 0, 0, 0);
        entry(x, 1, 0, 0);
        inputs(x, true, 4);
        inputs(x, false, 3);
        table(x, 0, 0, 1, 1);
        entry(x, 0, 0, 4);
        inputs(x, false, 3, 4, 5);
        table(x, 0, 0, 1, 0);
        entry(x, 0, 0, 0);
        inputs(x, true, 1);
        inputs(x, false, 1);
    }

    private static void tableRefuses() {
        Due.part("promise 7, BAD_CELL");
        WhatIfTables x = new WhatIfTables();
        inputs(x, true, 8);
        inputs(x, false, 9);
        table(x, 1, 1, 2, 1);
        inputs(x, true, 1, 2);
        inputs(x, false, 3);
        for (int cell : NO_CELLS) {
            table(x, cell, 1, 2, WhatIfTables.BAD_CELL);
            table(x, 0, cell, 2, WhatIfTables.BAD_CELL);
            table(x, 0, 1, cell, WhatIfTables.BAD_CELL);
            table(x, 0, cell, cell, WhatIfTables.BAD_CELL);
        }
        for (int c = 0; c < 16; c++) {
            table(x, 0, c, c, WhatIfTables.BAD_CELL);
        }
        entry(x, 0, 0, 8);
        entry(x, 1, 0, 0);
        Due.same("input(true, 7)", x.input(true, 7), 3);
        Due.same("input(false, 7)", x.input(false, 7), 2);
        table(x, 15, 15, 0, 6);
        entry(x, 0, 0, 1);
        entry(x, 1, 1, 2);
        entry(x, 2, 1, 7);
    }

    private static void entryStaysAsWorkedOut() {
        Due.part("promise 8, entry stays as it was worked out");
        WhatIfTables x = new WhatIfTables();
        number(x, 2, 5, 1);
        hold(x, 3, CELL, 0, CELL, 1, ADD, 0, CELL, 2, ADD, 0);
        inputs(x, true, 10);
        inputs(x, false, 100, 200);
        table(x, 3, 0, 1, 2);
        number(x, 2, 6, 2);
        hold(x, 3, NUMBER, 1);
        inputs(x, true, 7);
        inputs(x, false, 7);
        entry(x, 0, 0, 115);
        entry(x, 0, 1, 215);
        entry(x, 0, 1, 215);
    }

    private static void entryOutsideTable() {
        Due.part("promise 8, no such entry");
        WhatIfTables x = new WhatIfTables();
        inputs(x, true, 1, 2, 3, 4);
        inputs(x, false, 5, 6, 7, 8);
        table(x, 0, 0, 1, 16);
        inputs(x, true, 11, 12);
        inputs(x, false, 5, 6, 7);
        table(x, 0, 0, 1, 6);
        entry(x, 1, 2, 12);
        int[][] outside = {{-1, 0}, {0, -1}, {2, 0}, {0, 3}, {1, 3}, {2, 2}, {3, 3}, {4, 0}, {0, 4}, {1, -1}, {-1, 4}, {1, -4},
            {LEAST, 0}, {0, LEAST}, {GREATEST, 0}, {0, GREATEST}, {GREATEST, GREATEST}, {LEAST, LEAST}, {1 << 30, 0}};
        for (int[] place : outside) {
            entry(x, place[0], place[1], 0);
        }
    }

    private static void valueFollowsChain() {
        Due.part("promise 9, value");
        WhatIfTables x = new WhatIfTables();
        number(x, 0, 1, 1);
        for (int c = 1; c < 16; c++) {
            hold(x, c, CELL, c - 1, CELL, c - 1, ADD, 0);
        }
        value(x, 15, 32768);
        number(x, 0, 1 << 17, 15 + 1);
        value(x, 14, LEAST);
        value(x, 15, 0);
        for (int cell : NO_CELLS) {
            value(x, cell, 0);
        }
        number(x, 15, 77, 1);
        value(x, 15, 77);
        for (int cell : NO_CELLS) {
            value(x, cell, 0);
        }

        Due.part("promise 9, a formula laid under others");
        WhatIfTables y = new WhatIfTables();
        hold(y, 0, CELL, 1, NUMBER, 1, ADD, 0);
        value(y, 0, 1);
        hold(y, 1, CELL, 2, NUMBER, 1, ADD, 0);
        value(y, 0, 2);
        hold(y, 2, NUMBER, 40);
        value(y, 0, 42);
        value(y, 1, 41);
    }

    private static void dependentsCount() {
        Due.part("promise 10, dependents");
        WhatIfTables x = new WhatIfTables();
        hold(x, 5, CELL, 9, CELL, 9, ADD, 0);
        hold(x, 2, CELL, 5, CELL, 9, ADD, 0);
        hold(x, 14, CELL, 2, CELL, 5, ADD, 0);
        hold(x, 0, NUMBER, 1, NUMBER, 2, CELL, 14, PICK, 0);
        dependents(x, 9, 4);
        dependents(x, 5, 3);
        dependents(x, 2, 2);
        dependents(x, 14, 1);
        dependents(x, 0, 0);
        dependents(x, 1, 0);
        for (int cell : NO_CELLS) {
            dependents(x, cell, WhatIfTables.BAD_CELL);
        }
        number(x, 2, 0, 0);
        dependents(x, 9, 3);
        number(x, 14, 0, 0);
        dependents(x, 9, 1);
        dependents(x, 2, 0);
        dependents(x, 14, 1);
    }

    private static void isFormulaAnswers() {
        Due.part("promise 11, isFormula");
        WhatIfTables x = new WhatIfTables();
        hold(x, 0, NUMBER, 0);
        hold(x, 15, NUMBER, 0);
        isFormula(x, 0, true);
        isFormula(x, 15, true);
        isFormula(x, 1, false);
        for (int cell : NO_CELLS) {
            isFormula(x, cell, false);
        }
        number(x, 0, 0, 0);
        isFormula(x, 0, false);
        isFormula(x, 15, true);
    }

    private static void tokenOrder() {
        Due.part("promise 12, BAD_TOKEN before FULL");
        WhatIfTables x = new WhatIfTables();
        type(x, NUMBER, 1, NUMBER, 1, NUMBER, 1, NUMBER, 1, NUMBER, 1, NUMBER, 1, NUMBER, 1, NUMBER, 1);
        Due.same("token(8, 0)", x.token(8, 0), WhatIfTables.BAD_TOKEN);
        Due.same("token(-1, 0)", x.token(-1, 0), WhatIfTables.BAD_TOKEN);
        Due.same("token(1, 16)", x.token(CELL, 16), WhatIfTables.BAD_TOKEN);
        Due.same("token(1, -1)", x.token(CELL, -1), WhatIfTables.BAD_TOKEN);
        Due.same("token(1, 0)", x.token(CELL, 0), WhatIfTables.FULL);
        Due.same("token(0, 16)", x.token(NUMBER, 16), WhatIfTables.FULL);
        Due.same("token(7, 16)", x.token(PICK, 16), WhatIfTables.FULL);
    }
}
