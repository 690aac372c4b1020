/** For each promise: ordinary inputs, the edges that the document names, and wrong inputs. */
public final class PromisesTest implements Words {
    public static void main(String[] args) {
        newObject();
        objectsApart();
        tokenCounts();
        tokenRefuses();
        clearTokensForgets();
        formulaHolds();
        formulaWorksOffEachKind();
        formulaWraps();
        formulaRefusesBadCell();
        formulaRefusesUnsound();
        formulaRefusesCircle();
        formulaCircleLooksAtNewFormulaOnly();
        formulaTestsInOrder();
        formulaForgetsTokens();
        numberCountsChanges();
        numberReplacesFormula();
        numberRefusesBadCell();
        inputCounts();
        tableWorksOut();
        tableOverFormulaCells();
        tableOutIsAnInputCell();
        tableChangesNothingElse();
        tableForgetsInputs();
        tableWithEmptyLists();
        tableRefuses();
        entryStaysAsWorkedOut();
        entryOutsideTable();
        valueFollowsChain();
        dependentsCount();
        isFormulaAnswers();
        tokenOrder();
        Due.end();
    }

    private static void newObject() {
        Due.part("promise 1, new object");
        Sheet x = new Sheet();
        for (int c = 0; c < 16; c++) {
            x.value(c, 0);
            x.isFormula(c, false);
            x.dependents(c, 0);
        }
        for (int i = 0; i < 4; i++) {
            for (int j = 0; j < 4; j++) {
                x.entry(i, j, 0);
            }
        }
        x.refuse(0, UNSOUND);
        x.table(0, 1, 2, 0);
        x.token(NUMBER, 5, 1);
        x.input(true, 5, 1);
        x.input(false, 5, 1);
    }

    private static void objectsApart() {
        Due.part("promise 1, two objects share nothing");
        Sheet x = new Sheet();
        Sheet y = new Sheet();
        x.number(3, 9, 1);
        x.hold(4, CELL, 3);
        x.inputs(true, 1);
        x.token(NUMBER, 1, 1);
        y.value(3, 0);
        y.isFormula(4, false);
        y.inputs(true, 1);
        y.type(NUMBER, 1);
    }

    private static void tokenCounts() {
        Due.part("promise 2, token");
        Sheet x = new Sheet();
        for (int kind = 0; kind <= 7; kind++) {
            x.token(kind, 15, kind + 1);
        }
        x.token(NUMBER, 0, FULL);
        x.token(ADD, 0, FULL);
        x.clearTokens();
        for (int kind = 2; kind <= 7; kind++) {
            x.token(kind, LEAST, kind - 1);
        }
        x.clearTokens();
        x.type(NUMBER, LEAST, NUMBER, GREATEST, NUMBER, -1, NUMBER, 16, CELL, 0, CELL, 15, ADD, -1, PICK, 16);

        Due.part("promise 2, a token too many changes nothing");
        Sheet y = new Sheet();
        y.type(NUMBER, 1, NUMBER, 2, ADD, 0, NUMBER, 3, ADD, 0, NUMBER, 4, ADD, 0, NUMBER, 5);
        y.token(ADD, 0, FULL);
        y.refuse(0, UNSOUND);
        y.hold(0, NUMBER, 1, NUMBER, 2, ADD, 0, NUMBER, 3, ADD, 0, NUMBER, 4, NUMBER, 0, PICK, 0);
        y.value(0, 4);
    }

    private static void tokenRefuses() {
        Due.part("promise 2, bad tokens");
        Sheet x = new Sheet();
        x.type(NUMBER, 7);
        for (int kind : NO_KINDS) {
            x.token(kind, 0, BAD_TOKEN);
        }
        for (int cell : NO_CELLS) {
            x.token(CELL, cell, BAD_TOKEN);
        }
        x.formula(2, 0);
        x.value(2, 7);
    }

    private static void clearTokensForgets() {
        Due.part("promise 3, clearTokens");
        Sheet x = new Sheet();
        x.clearTokens();
        x.type(NUMBER, 7, NUMBER, 8);
        x.clearTokens();
        x.refuse(0, UNSOUND);
        x.type(NUMBER, 7, NUMBER, 8);
        x.clearTokens();
        x.clearTokens();
        x.hold(0, NUMBER, 9);
        x.value(0, 9);

        Due.part("promise 3, clearTokens leaves the rest");
        x.inputs(true, 1);
        x.inputs(false, 2);
        x.table(1, 1, 2, 1);
        x.inputs(true, 3, 4);
        x.inputs(false, 5);
        x.clearTokens();
        x.value(0, 9);
        x.isFormula(0, true);
        x.entry(0, 0, 1);
        x.input(true, 6, 3);
        x.input(false, 6, 2);
    }

    private static void formulaHolds() {
        Due.part("promise 4, formula instead of a number and of a formula");
        Sheet x = new Sheet();
        x.number(0, 6, 1);
        x.number(15, 4, 1);
        x.hold(15, CELL, 0, NUMBER, 2, MUL, 0);
        x.value(15, 12);
        x.isFormula(15, true);
        x.hold(15, NUMBER, 5);
        x.value(15, 5);
        x.isFormula(15, true);
        x.dependents(0, 0);

        Due.part("promise 4, a formula of the same length and a longer one");
        x.hold(15, NUMBER, 1, NUMBER, 2, SUB, 0);
        x.value(15, -1);
        x.hold(14, NUMBER, 1, NUMBER, 2, NUMBER, 3, NUMBER, 4, ADD, 0, ADD, 0, ADD, 0);
        x.value(14, 10);
        x.value(15, -1);

        Due.part("promise 4, eight tokens");
        x.hold(0, CELL, 14, NUMBER, 3, NUMBER, 4, PICK, 0, NUMBER, 5, NUMBER, 6, MUL, 0, SUB, 0);
        x.value(0, -27);
        x.hold(1, NUMBER, 0, NUMBER, 1, NUMBER, 2, NUMBER, 3, NUMBER, 4, PICK, 0, PICK, 0);
        x.value(1, 3);
    }

    private static void formulaWorksOffEachKind() {
        Due.part("promise 4, each kind of token");
        int[][] pairs = {{7, 3}, {3, 7}, {-7, 3}, {3, -7}, {0, 0}, {5, 5}, {-2, -9}, {LEAST, GREATEST}, {GREATEST, LEAST}, {LEAST, 1}};
        for (int[] pair : pairs) {
            int a = pair[0];
            int b = pair[1];
            eachKind(a, b);
        }
        int[] conditions = {1, 0, -1, 2, GREATEST, LEAST};
        for (int condition : conditions) {
            Sheet x = new Sheet();
            x.hold(0, NUMBER, condition, NUMBER, 20, NUMBER, 30, PICK, 0);
            x.value(0, condition > 0 ? 20 : 30);
        }
    }

    private static void eachKind(int a, int b) {
        Sheet x = new Sheet();
        x.number(0, a, a == 0 ? 0 : 1);
        x.hold(ADD, CELL, 0, NUMBER, b, ADD, 9);
        x.hold(SUB, CELL, 0, NUMBER, b, SUB, 9);
        x.hold(MUL, CELL, 0, NUMBER, b, MUL, 9);
        x.hold(MIN, CELL, 0, NUMBER, b, MIN, 9);
        x.hold(MAX, CELL, 0, NUMBER, b, MAX, 9);
        x.hold(1, CELL, 0);
        x.hold(8, NUMBER, b);
        x.value(ADD, a + b);
        x.value(SUB, a - b);
        x.value(MUL, a * b);
        x.value(MIN, Math.min(a, b));
        x.value(MAX, Math.max(a, b));
        x.value(1, a);
        x.value(8, b);
    }

    private static void formulaWraps() {
        Due.part("terms, arithmetic wraps");
        Sheet x = new Sheet();
        x.hold(0, NUMBER, GREATEST, NUMBER, 1, ADD, 0);
        x.hold(1, NUMBER, LEAST, NUMBER, 1, SUB, 0);
        x.hold(2, NUMBER, 65536, NUMBER, 65536, MUL, 0);
        x.hold(3, NUMBER, LEAST, NUMBER, -1, MUL, 0);
        x.value(0, LEAST);
        x.value(1, GREATEST);
        x.value(2, 0);
        x.value(3, LEAST);
    }

    private static void formulaRefusesBadCell() {
        Due.part("promise 4, BAD_CELL keeps the tokens");
        Sheet x = new Sheet();
        x.type(NUMBER, 3, NUMBER, 4);
        for (int cell : NO_CELLS) {
            x.formula(cell, BAD_CELL);
        }
        x.token(ADD, 0, 3);
        x.formula(15, 0);
        x.value(15, 7);
    }

    private static void formulaRefusesUnsound() {
        Due.part("promise 4, UNSOUND");
        int[][] unsound = {
            {},
            {ADD, 0},
            {PICK, 0},
            {NUMBER, 1, NUMBER, 2},
            {NUMBER, 1, ADD, 0},
            {NUMBER, 1, PICK, 0},
            {NUMBER, 1, NUMBER, 2, PICK, 0},
            {NUMBER, 1, NUMBER, 2, NUMBER, 3, ADD, 0},
            {NUMBER, 1, NUMBER, 2, NUMBER, 3, NUMBER, 4, PICK, 0},
            {NUMBER, 1, ADD, 0, NUMBER, 2},
            {ADD, 0, NUMBER, 1, NUMBER, 2},
            {ADD, 0, NUMBER, 1, NUMBER, 1},
            {SUB, 0, NUMBER, 1},
            {PICK, 0, NUMBER, 1, NUMBER, 2, NUMBER, 3},
            {NUMBER, 1, NUMBER, 2, PICK, 0, NUMBER, 3},
            {NUMBER, 1, NUMBER, 2, ADD, 0, ADD, 0},
            {NUMBER, 1, NUMBER, 2, ADD, 0, MUL, 0, NUMBER, 3},
            {CELL, 1, CELL, 2},
            {NUMBER, 1, NUMBER, 1, NUMBER, 1, NUMBER, 1, NUMBER, 1, NUMBER, 1, NUMBER, 1, NUMBER, 1},
            {ADD, 0, ADD, 0, ADD, 0, ADD, 0, ADD, 0, ADD, 0, ADD, 0, ADD, 0},
        };
        Sheet x = new Sheet();
        x.number(5, 8, 1);
        x.hold(6, CELL, 5, NUMBER, 1, ADD, 0);
        for (int[] tokens : unsound) {
            x.refuse(5, UNSOUND, tokens);
            x.value(5, 8);
            x.isFormula(5, false);
            x.refuse(6, UNSOUND, tokens);
            x.value(6, 9);
            x.isFormula(6, true);
        }
        x.dependents(5, 1);
        for (int kind = ADD; kind <= MAX; kind++) {
            x.refuse(5, UNSOUND, NUMBER, 1, kind, 0);
            x.refuse(5, UNSOUND, kind, 0);
            x.hold(7, NUMBER, 1, NUMBER, 1, kind, 0);
        }
    }

    private static void formulaRefusesCircle() {
        Due.part("promise 4, CIRCLE");
        Sheet x = new Sheet();
        x.number(3, 4, 1);
        x.refuse(3, CIRCLE, CELL, 3);
        x.refuse(3, CIRCLE, NUMBER, 1, CELL, 3, ADD, 0);
        x.value(3, 4);
        x.isFormula(3, false);

        Due.part("promise 4, CIRCLE in the part that PICK throws away");
        x.refuse(3, CIRCLE, NUMBER, 1, NUMBER, 2, CELL, 3, PICK, 0);
        x.refuse(3, CIRCLE, NUMBER, 0, CELL, 3, NUMBER, 2, PICK, 0);
        x.hold(4, NUMBER, 1, NUMBER, 2, CELL, 3, PICK, 0);
        x.refuse(3, CIRCLE, NUMBER, 1, NUMBER, 2, CELL, 4, PICK, 0);
        x.value(3, 4);
        x.value(4, 2);

        Due.part("promise 4, CIRCLE over all sixteen cells");
        longCircle(1);
        longCircle(15);
    }

    // Each cell names the one that is 'step' further, so that the chain runs up or down the cell numbers.
    private static void longCircle(int step) {
        Sheet x = new Sheet();
        int cell = 0;
        for (int k = 0; k < 15; k++) {
            int next = (cell + step) % 16;
            x.hold(cell, CELL, next, NUMBER, 1, ADD, 0);
            cell = next;
        }
        x.refuse(cell, CIRCLE, CELL, 0);
        x.isFormula(cell, false);
        x.dependents(cell, 15);
        x.value(0, 15);
        x.number(cell, 100, 16);
        x.value(0, 115);
    }

    private static void formulaCircleLooksAtNewFormulaOnly() {
        Due.part("promise 4, the old formula makes no circle");
        Sheet x = new Sheet();
        x.hold(0, CELL, 1);
        x.hold(1, CELL, 2);
        x.refuse(2, CIRCLE, CELL, 0);
        x.hold(1, NUMBER, 5);
        x.hold(2, CELL, 0);
        x.value(2, 5);
        x.refuse(0, CIRCLE, CELL, 2);
        x.hold(0, CELL, 3);
        x.hold(1, CELL, 0);
        x.hold(1, CELL, 0, CELL, 2, ADD, 0);
        x.number(0, 7, 3);
        x.value(1, 14);

        Due.part("promise 4, a number's old formula makes no circle");
        Sheet y = new Sheet();
        y.hold(8, CELL, 9);
        y.number(8, 2, 1);
        y.hold(9, CELL, 8);
        y.value(9, 2);

        Due.part("promise 4, the argument of other kinds than CELL names nothing");
        Sheet z = new Sheet();
        z.hold(3, NUMBER, 3, NUMBER, 3, ADD, 3);
        z.value(3, 6);
        z.dependents(3, 0);
        z.hold(2, CELL, 5, CELL, 5, MUL, 2);
        z.dependents(2, 0);
        z.dependents(5, 1);
    }

    private static void formulaTestsInOrder() {
        Due.part("promise 4, order of the tests");
        Sheet x = new Sheet();
        x.refuse(16, BAD_CELL);
        x.refuse(-1, BAD_CELL, ADD, 0);
        x.clearTokens();
        x.refuse(3, UNSOUND, CELL, 3, CELL, 3);
        x.refuse(3, UNSOUND, CELL, 3, ADD, 0);
    }

    private static void formulaForgetsTokens() {
        Due.part("promise 4, tokens are forgotten");
        Sheet x = new Sheet();
        x.hold(0, NUMBER, 1);
        x.token(NUMBER, 1, 1);
        x.token(NUMBER, 2, 2);
        x.formula(0, UNSOUND);
        x.token(CELL, 4, 1);
        x.formula(4, CIRCLE);
        x.token(NUMBER, 4, 1);

        Due.part("promise 4, inputs and table stay");
        x.inputs(true, 1);
        x.inputs(false, 2);
        x.table(5, 5, 6, 1);
        x.inputs(true, 3, 4);
        x.formula(5, 0);
        x.entry(0, 0, 1);
        x.input(true, 5, 3);
    }

    private static void numberCountsChanges() {
        Due.part("promise 5, number");
        Sheet x = new Sheet();
        x.number(0, 0, 0);
        x.number(0, GREATEST, 1);
        x.number(0, GREATEST, 0);
        x.number(0, 3, 1);
        x.number(15, LEAST, 1);
        x.value(15, LEAST);
        x.hold(1, CELL, 0, NUMBER, 5, MIN, 0);
        x.hold(2, CELL, 1);
        x.hold(3, CELL, 0, CELL, 0, SUB, 0);
        x.number(0, 4, 3);
        x.number(0, 5, 3);
        x.number(0, 6, 1);
        x.number(0, 7, 1);
        x.number(0, 1, 3);
        x.value(2, 1);
        x.value(3, 0);

        Due.part("promise 5, only values that differ count");
        Sheet y = new Sheet();
        y.hold(1, CELL, 0, CELL, 0, MUL, 0);
        y.hold(2, CELL, 1, CELL, 0, ADD, 0);
        y.number(0, 2, 3);
        y.number(0, -2, 2);
        y.number(0, -3, 3);
    }

    private static void numberReplacesFormula() {
        Due.part("promise 5, number instead of a formula");
        Sheet x = new Sheet();
        x.number(0, 5, 1);
        x.hold(1, CELL, 0);
        x.hold(2, CELL, 1);
        x.number(1, 5, 0);
        x.isFormula(1, false);
        x.dependents(0, 0);
        x.dependents(1, 1);
        x.number(0, 6, 1);
        x.value(1, 5);
        x.value(2, 5);
        x.number(1, 9, 2);
        x.value(2, 9);
        x.hold(1, CELL, 0);
        x.value(2, 6);
        x.number(1, 9, 2);
    }

    private static void numberRefusesBadCell() {
        Due.part("promise 5, BAD_CELL");
        Sheet x = new Sheet();
        for (int cell : NO_CELLS) {
            x.number(cell, 7, BAD_CELL);
        }
        for (int c = 0; c < 16; c++) {
            x.value(c, 0);
        }

        Due.part("promise 5, tokens, inputs and table stay");
        x.inputs(true, 1);
        x.inputs(false, 2);
        x.table(5, 5, 6, 1);
        x.inputs(true, 3);
        x.inputs(false, 3);
        x.type(NUMBER, 1);
        x.number(5, 2, 1);
        x.number(16, 2, BAD_CELL);
        x.entry(0, 0, 1);
        x.token(NUMBER, 1, 2);
        x.input(true, 5, 2);
        x.input(false, 5, 2);
    }

    private static void inputCounts() {
        Due.part("promise 6, input");
        Sheet x = new Sheet();
        x.inputs(true, 5, LEAST, GREATEST);
        x.inputs(false, 0, 0);
        x.input(true, 7, 4);
        x.input(true, 8, FULL);
        x.input(true, 9, FULL);
        x.input(false, 3, 3);
        x.input(false, 4, 4);
        x.input(false, 9, FULL);
        x.hold(2, CELL, 0, CELL, 1, SUB, 0);
        x.table(2, 0, 1, 16);
        int[] rows = {5, LEAST, GREATEST, 7};
        int[] columns = {0, 0, 3, 4};
        for (int i = 0; i < 4; i++) {
            for (int j = 0; j < 4; j++) {
                x.entry(i, j, rows[i] - columns[j]);
            }
        }
    }

    private static void tableWorksOut() {
        Due.part("promise 7, table");
        Sheet x = new Sheet();
        x.number(0, 100, 1);
        x.number(1, 200, 1);
        x.number(2, 1000, 1);
        x.hold(3, CELL, 0, CELL, 2, ADD, 0);
        x.hold(4, CELL, 3, CELL, 1, SUB, 0);
        x.inputs(true, 1, 2, 3);
        x.inputs(false, 10, 20);
        x.table(4, 0, 1, 6);
        for (int i = 0; i < 3; i++) {
            for (int j = 0; j < 2; j++) {
                x.entry(i, j, i + 1 + 1000 - 10 * (j + 1));
            }
        }
        Due.part("promise 7, more columns than rows, and the cells the other way round");
        x.inputs(true, 1);
        x.inputs(false, 10, 20, 30, 40);
        x.table(4, 1, 0, 4);
        for (int j = 0; j < 4; j++) {
            x.entry(0, j, 10 * (j + 1) + 1000 - 1);
        }
        x.entry(1, 0, 0);
        x.entry(2, 1, 0);

        Due.part("promise 7, a cell that depends on neither");
        x.inputs(true, 1, 2);
        x.inputs(false, 3);
        x.table(2, 0, 1, 2);
        x.entry(0, 0, 1000);
        x.entry(1, 0, 1000);
    }

    private static void tableOverFormulaCells() {
        Due.part("promise 7, a formula cell is taken as a number");
        Sheet x = new Sheet();
        x.number(0, 3, 1);
        x.hold(1, CELL, 0, NUMBER, 10, MUL, 0);
        x.hold(2, CELL, 0, CELL, 1, ADD, 0);
        x.inputs(true, 5, 6);
        x.inputs(false, 1, -1);
        x.table(2, 0, 1, 4);
        x.entry(0, 0, 6);
        x.entry(0, 1, 4);
        x.entry(1, 0, 7);
        x.entry(1, 1, 5);
        x.inputs(true, 5, 6);
        x.inputs(false, 1, -1);
        x.table(2, 1, 0, 4);
        x.entry(1, 1, 5);
        x.inputs(true, 8);
        x.inputs(false, 9);
        x.table(2, 1, 15, 1);
        x.entry(0, 0, 11);

        Due.part("promise 7, a cell between the row cell and out is cut off");
        x.hold(3, CELL, 2);
        x.inputs(true, 50);
        x.inputs(false, 60);
        x.table(3, 0, 2, 1);
        x.entry(0, 0, 60);
        x.isFormula(1, true);
        x.isFormula(2, true);
        x.value(3, 33);
    }

    private static void tableOutIsAnInputCell() {
        Due.part("promise 7, out is the row cell or the column cell");
        Sheet x = new Sheet();
        x.hold(7, CELL, 8);
        x.hold(8, NUMBER, 4);
        x.inputs(true, 1, 2);
        x.inputs(false, 3, 4);
        x.table(7, 7, 8, 4);
        x.entry(0, 0, 1);
        x.entry(0, 1, 1);
        x.entry(1, 0, 2);
        x.entry(1, 1, 2);
        x.inputs(true, 1, 2);
        x.inputs(false, 3, 4);
        x.table(8, 7, 8, 4);
        x.entry(0, 0, 3);
        x.entry(0, 1, 4);
        x.entry(1, 0, 3);
        x.entry(1, 1, 4);
        x.value(7, 4);
        x.value(8, 4);
    }

    private static void tableChangesNothingElse() {
        Due.part("promise 7, all cells hold afterwards what they held");
        Sheet x = new Sheet();
        x.number(0, 3, 1);
        x.hold(1, CELL, 0);
        x.hold(2, CELL, 1, CELL, 0, ADD, 0);
        x.type(NUMBER, 1);
        x.inputs(true, 50);
        x.inputs(false, 60);
        x.table(2, 0, 1, 1);
        x.entry(0, 0, 110);
        x.value(0, 3);
        x.value(1, 3);
        x.value(2, 6);
        x.isFormula(0, false);
        x.isFormula(1, true);
        x.dependents(0, 2);
        x.token(NUMBER, 1, 2);
        x.number(0, 3, 0);
        x.number(0, 50, 3);
        x.value(2, 100);
    }

    private static void tableForgetsInputs() {
        Due.part("promise 7, both lists are forgotten");
        Sheet x = new Sheet();
        x.inputs(true, 1, 2, 3, 4);
        x.inputs(false, 5, 6, 7, 8);
        x.table(0, 0, 1, 16);
        x.inputs(true, 9);
        x.inputs(false, 10);
        x.table(0, 0, 1, 1);
        x.entry(0, 0, 9);
        x.entry(0, 1, 0);
        x.entry(1, 0, 0);
        x.table(0, 0, 1, 0);
        x.entry(0, 0, 0);
    }

    private static void tableWithEmptyLists() {
        Due.part("promise 7, an empty list");
        Sheet x = new Sheet();
        x.inputs(true, 1, 2);
        x.inputs(false, 3);
        x.table(0, 0, 1, 2);
        x.entry(1, 0, 2);
        x.inputs(true, 1, 2);
        x.table(0, 0, 1, 0);
        x.entry(0, 0, 0);
        x.entry(1, 0, 0);
        x.inputs(true, 4);
        x.inputs(false, 3);
        x.table(0, 0, 1, 1);
        x.entry(0, 0, 4);
        x.inputs(false, 3, 4, 5);
        x.table(0, 0, 1, 0);
        x.entry(0, 0, 0);
        x.inputs(true, 1);
        x.inputs(false, 1);
    }

    private static void tableRefuses() {
        Due.part("promise 7, BAD_CELL");
        Sheet x = new Sheet();
        x.inputs(true, 8);
        x.inputs(false, 9);
        x.table(1, 1, 2, 1);
        x.inputs(true, 1, 2);
        x.inputs(false, 3);
        for (int cell : NO_CELLS) {
            x.table(cell, 1, 2, BAD_CELL);
            x.table(0, cell, 2, BAD_CELL);
            x.table(0, 1, cell, BAD_CELL);
            x.table(0, cell, cell, BAD_CELL);
        }
        for (int c = 0; c < 16; c++) {
            x.table(0, c, c, BAD_CELL);
        }
        x.entry(0, 0, 8);
        x.entry(1, 0, 0);
        x.input(true, 7, 3);
        x.input(false, 7, 2);
        x.table(15, 15, 0, 6);
        x.entry(0, 0, 1);
        x.entry(1, 1, 2);
        x.entry(2, 1, 7);
    }

    private static void entryStaysAsWorkedOut() {
        Due.part("promise 8, entry stays as it was worked out");
        Sheet x = new Sheet();
        x.number(2, 5, 1);
        x.hold(3, CELL, 0, CELL, 1, ADD, 0, CELL, 2, ADD, 0);
        x.inputs(true, 10);
        x.inputs(false, 100, 200);
        x.table(3, 0, 1, 2);
        x.number(2, 6, 2);
        x.hold(3, NUMBER, 1);
        x.inputs(true, 7);
        x.inputs(false, 7);
        x.entry(0, 0, 115);
        x.entry(0, 1, 215);
        x.entry(0, 1, 215);
    }

    private static void entryOutsideTable() {
        Due.part("promise 8, no such entry");
        Sheet x = new Sheet();
        x.inputs(true, 1, 2, 3, 4);
        x.inputs(false, 5, 6, 7, 8);
        x.table(0, 0, 1, 16);
        x.inputs(true, 11, 12);
        x.inputs(false, 5, 6, 7);
        x.table(0, 0, 1, 6);
        x.entry(1, 2, 12);
        int[][] outside = {{-1, 0}, {0, -1}, {2, 0}, {0, 3}, {1, 3}, {2, 2}, {3, 3}, {4, 0}, {0, 4}, {1, -1}, {-1, 4}, {1, -4},
            {LEAST, 0}, {0, LEAST}, {GREATEST, 0}, {0, GREATEST}, {GREATEST, GREATEST}, {LEAST, LEAST}, {1 << 30, 0}};
        for (int[] place : outside) {
            x.entry(place[0], place[1], 0);
        }
    }

    private static void valueFollowsChain() {
        Due.part("promise 9, value");
        Sheet x = new Sheet();
        x.number(0, 1, 1);
        for (int c = 1; c < 16; c++) {
            x.hold(c, CELL, c - 1, CELL, c - 1, ADD, 0);
        }
        x.value(15, 32768);
        x.number(0, 1 << 17, 15 + 1);
        x.value(14, LEAST);
        x.value(15, 0);
        for (int cell : NO_CELLS) {
            x.value(cell, 0);
        }
        x.number(15, 77, 1);
        x.value(15, 77);
        for (int cell : NO_CELLS) {
            x.value(cell, 0);
        }

        Due.part("promise 9, a formula laid under others");
        Sheet y = new Sheet();
        y.hold(0, CELL, 1, NUMBER, 1, ADD, 0);
        y.value(0, 1);
        y.hold(1, CELL, 2, NUMBER, 1, ADD, 0);
        y.value(0, 2);
        y.hold(2, NUMBER, 40);
        y.value(0, 42);
        y.value(1, 41);
    }

    private static void dependentsCount() {
        Due.part("promise 10, dependents");
        Sheet x = new Sheet();
        x.hold(5, CELL, 9, CELL, 9, ADD, 0);
        x.hold(2, CELL, 5, CELL, 9, ADD, 0);
        x.hold(14, CELL, 2, CELL, 5, ADD, 0);
        x.hold(0, NUMBER, 1, NUMBER, 2, CELL, 14, PICK, 0);
        x.dependents(9, 4);
        x.dependents(5, 3);
        x.dependents(2, 2);
        x.dependents(14, 1);
        x.dependents(0, 0);
        x.dependents(1, 0);
        for (int cell : NO_CELLS) {
            x.dependents(cell, BAD_CELL);
        }
        x.number(2, 0, 0);
        x.dependents(9, 3);
        x.number(14, 0, 0);
        x.dependents(9, 1);
        x.dependents(2, 0);
        x.dependents(14, 1);
    }

    private static void isFormulaAnswers() {
        Due.part("promise 11, isFormula");
        Sheet x = new Sheet();
        x.hold(0, NUMBER, 0);
        x.hold(15, NUMBER, 0);
        x.isFormula(0, true);
        x.isFormula(15, true);
        x.isFormula(1, false);
        for (int cell : NO_CELLS) {
            x.isFormula(cell, false);
        }
        x.number(0, 0, 0);
        x.isFormula(0, false);
        x.isFormula(15, true);
    }

    private static void tokenOrder() {
        Due.part("promise 12, BAD_TOKEN before FULL");
        Sheet x = new Sheet();
        x.type(NUMBER, 1, NUMBER, 1, NUMBER, 1, NUMBER, 1, NUMBER, 1, NUMBER, 1, NUMBER, 1, NUMBER, 1);
        x.token(8, 0, BAD_TOKEN);
        x.token(-1, 0, BAD_TOKEN);
        x.token(CELL, 16, BAD_TOKEN);
        x.token(CELL, -1, BAD_TOKEN);
        x.token(CELL, 0, FULL);
        x.token(NUMBER, 16, FULL);
        x.token(PICK, 16, FULL);
    }
}
