/** The edges that the promises name, a test for each sentence; what a refused call leaves stands in RefusedCallsTest. */
public final class PromisesEdgesTest implements Words {
    public static void main(String[] args) {
        newObjectHoldsZeroEverywhere();
        newObjectHasNoTokens();
        newObjectHasAnEmptyTable();
        newObjectHasNoInputs();

        tokenKindWithin();
        tokenKindOutside();
        tokenCellWithin();
        tokenCellOutside();
        tokenOtherKindsTakeAnyArgument();
        tokenOtherKindsWorkWithoutTheArgument();
        tokenIsTypedAtTheEnd();
        tokenCountsUpToEight();
        tokenIsFullAtEight();
        tokenHasRoomAgain();
        clearTokensForgetsNoneToEight();

        formulaCellWithin();
        formulaCellOutside();
        formulaInsteadOfWhatItHeld();
        formulaWithoutTokens();
        formulaUnsound();
        formulaCircle();
        formulaCircleThenNotNow();
        formulaBadCellBeforeUnsound();
        formulaUnsoundBeforeCircle();
        formulaForgetsTokensWhenItHolds();
        formulaForgetsTokensWhenUnsound();
        formulaForgetsTokensWhenCircle();
        formulaKeepsTokensWhenBadCell();

        numberCellWithin();
        numberCellOutside();
        numberTakesAnyInt();
        numberInsteadOfWhatItHeld();
        numberCountsNone();
        numberCountsAll();
        numberCountsOnlyOtherValues();

        valueOutside();
        dependentsNoneAndAll();
        dependentsOutside();
        isFormulaOutside();
        badTokenBeforeFull();
        Due.end();
    }

    private static void newObjectHoldsZeroEverywhere() {
        Due.part("promise 1: 'Every cell holds the number 0'");
        Sheet x = new Sheet();
        for (int c = 0; c < CELLS; c++) {
            x.value(c, 0);
            x.isFormula(c, false);
            x.dependents(c, 0);
        }
        for (int c = 0; c < CELLS; c++) {
            x.number(c, 0, 0);
        }
    }

    private static void newObjectHasNoTokens() {
        Due.part("promise 1: 'no tokens are typed'");
        Sheet x = new Sheet();
        x.token(NUMBER, 4, 1);
        x.formula(0, 0);
        x.value(0, 4);
        Sheet y = new Sheet();
        y.formula(0, UNSOUND);
    }

    private static void newObjectHasAnEmptyTable() {
        Due.part("promise 1: 'the table is empty (0 rows, 0 columns)'");
        Sheet x = new Sheet();
        // With numbers in the cells, so that a table that is not empty shows.
        for (int c = 0; c < CELLS; c++) {
            x.number(c, 9, 1);
        }
        noEntries(x, 0, 0);
    }

    private static void newObjectHasNoInputs() {
        Due.part("promise 1: a new object has no inputs");
        Sheet x = new Sheet();
        x.table(0, 0, 1, 0);
        Sheet y = new Sheet();
        y.input(true, 5, 1);
        y.input(false, 6, 1);
        y.table(0, 0, 1, 1);
        y.entry(0, 0, 5);
    }

    // No entry outside the first rows and columns answers anything but 0.
    private static void noEntries(Sheet x, int rows, int columns) {
        for (int i = -1; i <= 4; i++) {
            for (int j = -1; j <= 4; j++) {
                if (i < 0 || i >= rows || j < 0 || j >= columns) {
                    x.entry(i, j, 0);
                }
            }
        }
    }

    private static void tokenKindWithin() {
        Due.part("promise 2: kind in 0 to 7");
        for (int kind = 0; kind <= 7; kind++) {
            Sheet x = new Sheet();
            x.token(kind, 0, 1);
            x.token(kind, 0, 2);
        }
    }

    private static void tokenKindOutside() {
        Due.part("promise 2: 'kind not in 0 to 7: BAD_TOKEN'");
        for (int kind : NO_KINDS) {
            Sheet x = new Sheet();
            for (int argument : ANY_INTS) {
                x.token(kind, argument, BAD_TOKEN);
            }
            x.token(NUMBER, 0, 1);
        }
    }

    private static void tokenCellWithin() {
        Due.part("promise 2: CELL and argument in 0 to 15");
        for (int cell = 0; cell < CELLS; cell++) {
            Sheet x = new Sheet();
            x.token(CELL, cell, 1);
            x.formula((cell + 1) % CELLS, 0);
            x.dependents(cell, 1);
        }
    }

    private static void tokenCellOutside() {
        Due.part("promise 2: 'kind CELL and argument not in 0 to 15: BAD_TOKEN'");
        for (int cell : NO_CELLS) {
            Sheet x = new Sheet();
            x.token(CELL, cell, BAD_TOKEN);
            x.token(CELL, 0, 1);
            x.token(CELL, cell, BAD_TOKEN);
            x.token(CELL, 15, 2);
        }
    }

    private static void tokenOtherKindsTakeAnyArgument() {
        Due.part("promise 2: 'Other kinds than NUMBER and CELL don't look at the argument', any is taken");
        for (int kind = 0; kind <= 7; kind++) {
            if (kind != CELL) {
                for (int argument : ANY_INTS) {
                    Sheet x = new Sheet();
                    x.token(kind, argument, 1);
                }
            }
        }
    }

    private static void tokenOtherKindsWorkWithoutTheArgument() {
        Due.part("promise 2: 'Other kinds than NUMBER and CELL don't look at the argument', nor does their formula");
        int[] due = {0, 0, 12, 8, 20, 2, 10};
        for (int argument : ANY_INTS) {
            for (int kind = ADD; kind <= MAX; kind++) {
                Sheet x = new Sheet();
                x.hold(0, NUMBER, 10, NUMBER, 2, kind, argument);
                x.value(0, due[kind]);
                nothingNamed(x);
            }
            Sheet x = new Sheet();
            x.hold(0, NUMBER, 1, NUMBER, 4, NUMBER, 5, PICK, argument);
            x.value(0, 4);
            nothingNamed(x);
        }
    }

    private static void nothingNamed(Sheet x) {
        for (int c = 0; c < CELLS; c++) {
            x.dependents(c, 0);
        }
    }

    private static void tokenIsTypedAtTheEnd() {
        Due.part("promise 2: 'Types a token at the end of the list'");
        Sheet x = new Sheet();
        x.hold(0, NUMBER, 10, NUMBER, 3, SUB, 0, NUMBER, 2, MUL, 0, NUMBER, 5, SUB, 0);
        x.value(0, 9);
        x.hold(0, NUMBER, 5, NUMBER, 2, NUMBER, 3, NUMBER, 10, SUB, 0, MUL, 0, SUB, 0);
        x.value(0, 19);
    }

    private static void tokenCountsUpToEight() {
        Due.part("promise 2: 'answers how many tokens are typed'");
        for (int kind = 0; kind <= 7; kind++) {
            Sheet x = new Sheet();
            for (int k = 1; k <= 8; k++) {
                x.token(kind, 0, k);
            }
        }
    }

    private static void tokenIsFullAtEight() {
        Due.part("promise 2: 'eight tokens are typed: FULL'");
        Sheet x = new Sheet();
        x.type(NUMBER, 1, NUMBER, 1, NUMBER, 1, NUMBER, 1, NUMBER, 1, NUMBER, 1, NUMBER, 1);
        x.token(NUMBER, 1, 8);
        for (int round = 0; round < 3; round++) {
            for (int kind = 0; kind <= 7; kind++) {
                x.token(kind, 0, FULL);
            }
        }
        for (int argument : ANY_INTS) {
            x.token(NUMBER, argument, FULL);
        }
        x.token(CELL, 15, FULL);
    }

    private static void tokenHasRoomAgain() {
        Due.part("promise 2: after FULL there is room again as soon as the tokens are forgotten");
        Sheet x = new Sheet();
        fillTokens(x);
        x.token(NUMBER, 1, FULL);
        x.clearTokens();
        fillTokens(x);
        x.token(NUMBER, 1, FULL);
        x.formula(0, UNSOUND);
        fillTokens(x);
        x.token(NUMBER, 1, FULL);
    }

    private static void fillTokens(Sheet x) {
        for (int k = 1; k <= 8; k++) {
            x.token(NUMBER, k, k);
        }
    }

    private static void clearTokensForgetsNoneToEight() {
        Due.part("promise 3: 'Forgets the typed tokens'");
        for (int typed = 0; typed <= 8; typed++) {
            Sheet x = new Sheet();
            for (int k = 1; k <= typed; k++) {
                x.token(NUMBER, k, k);
            }
            x.clearTokens();
            x.formula(0, UNSOUND);
            for (int k = 1; k <= typed; k++) {
                x.token(NUMBER, k, k);
            }
            x.clearTokens();
            x.clearTokens();
            x.token(NUMBER, 40, 1);
            x.formula(0, 0);
            x.value(0, 40);
        }
    }

    private static void formulaCellWithin() {
        Due.part("promise 4: cell in 0 to 15");
        for (int cell = 0; cell < CELLS; cell++) {
            Sheet x = new Sheet();
            x.hold(cell, NUMBER, 6);
            for (int c = 0; c < CELLS; c++) {
                x.value(c, c == cell ? 6 : 0);
                x.isFormula(c, c == cell);
            }
        }
    }

    private static void formulaCellOutside() {
        Due.part("promise 4: 'cell not in 0 to 15: BAD_CELL'");
        for (int cell : NO_CELLS) {
            Sheet x = new Sheet();
            x.refuse(cell, BAD_CELL, NUMBER, 6);
            for (int c = 0; c < CELLS; c++) {
                x.value(c, 0);
                x.isFormula(c, false);
            }
        }
    }

    private static void formulaInsteadOfWhatItHeld() {
        Due.part("promise 4: 'instead of what it held'");
        Sheet x = new Sheet();
        x.number(0, 3, 1);
        x.number(1, 4, 1);
        x.number(2, 5, 1);
        x.hold(3, CELL, 2);
        x.hold(2, CELL, 0, CELL, 1, ADD, 0, NUMBER, 1, ADD, 0, NUMBER, 2, ADD, 0);
        x.value(2, 10);
        x.value(3, 10);
        x.hold(2, CELL, 1);
        x.value(2, 4);
        x.value(3, 4);
        x.dependents(0, 0);
        x.dependents(1, 2);
        x.number(2, 5, 2);
        x.hold(2, NUMBER, 5);
        x.isFormula(2, true);
        x.dependents(1, 0);
        x.value(3, 5);
    }

    private static void formulaWithoutTokens() {
        Due.part("promise 4: 'no tokens are not sound either'");
        Sheet x = new Sheet();
        for (int c = 0; c < CELLS; c++) {
            x.formula(c, UNSOUND);
        }
        x.hold(0, NUMBER, 7);
        x.formula(0, UNSOUND);
        x.value(0, 7);
        x.isFormula(0, true);
    }

    private static void formulaUnsound() {
        Due.part("promise 4: 'the formula is not sound: UNSOUND'");
        for (int cell = 0; cell < CELLS; cell++) {
            Sheet x = new Sheet();
            x.refuse(cell, UNSOUND, ADD, 0);
            x.refuse(cell, UNSOUND, NUMBER, 1, NUMBER, 2);
            x.isFormula(cell, false);
        }
    }

    private static void formulaCircle() {
        Due.part("promise 4: 'some cell would depend on itself then: CIRCLE'");
        for (int cell = 0; cell < CELLS; cell++) {
            int other = (cell + 5) % CELLS;
            Sheet x = new Sheet();
            x.refuse(cell, CIRCLE, CELL, cell);
            x.hold(cell, CELL, other);
            x.refuse(other, CIRCLE, CELL, cell);
            x.refuse(cell, CIRCLE, CELL, cell);
            x.isFormula(other, false);
            x.isFormula(cell, true);
        }
    }

    private static void formulaCircleThenNotNow() {
        Due.part("promise 4: 'would depend on itself then', what the cell held before does not count");
        Sheet x = new Sheet();
        x.hold(0, CELL, 1);
        x.hold(1, CELL, 2);
        x.hold(1, NUMBER, 5);
        x.hold(2, CELL, 0);
        x.value(2, 5);
        x.hold(0, NUMBER, 8);
        x.hold(1, CELL, 2);
        x.value(1, 8);
        x.refuse(0, CIRCLE, CELL, 1);
        x.number(2, 3, 2);
        x.hold(0, CELL, 1);
        x.value(0, 3);
    }

    private static void formulaBadCellBeforeUnsound() {
        Due.part("promise 4: 'Tests in this order', BAD_CELL before UNSOUND");
        for (int cell : NO_CELLS) {
            Sheet x = new Sheet();
            x.formula(cell, BAD_CELL);
            x.refuse(cell, BAD_CELL, ADD, 0);
            x.clearTokens();
            x.refuse(cell, BAD_CELL, NUMBER, 1, NUMBER, 2);
            x.formula(0, UNSOUND);
        }
    }

    private static void formulaUnsoundBeforeCircle() {
        Due.part("promise 4: 'Tests in this order', UNSOUND before CIRCLE");
        Sheet x = new Sheet();
        x.refuse(3, UNSOUND, CELL, 3, CELL, 3);
        x.refuse(3, UNSOUND, CELL, 3, ADD, 0);
        x.refuse(3, UNSOUND, ADD, 0, CELL, 3);
        x.refuse(3, UNSOUND, CELL, 3, NUMBER, 1, NUMBER, 1, ADD, 0);
        x.hold(4, CELL, 3);
        x.refuse(3, UNSOUND, CELL, 4, CELL, 4);
        x.refuse(3, CIRCLE, CELL, 4);
    }

    private static void formulaForgetsTokensWhenItHolds() {
        Due.part("promise 4: 'answers 0, and the typed tokens are forgotten too'");
        Sheet x = new Sheet();
        x.hold(0, NUMBER, 1);
        x.formula(1, UNSOUND);
        x.hold(0, NUMBER, 100, NUMBER, 10, NUMBER, 0, NUMBER, 2, NUMBER, 3, PICK, 0, MUL, 0, SUB, 0);
        x.token(NUMBER, 2, 1);
        x.formula(1, 0);
        x.value(1, 2);
        x.value(0, 70);
    }

    private static void formulaForgetsTokensWhenUnsound() {
        Due.part("promise 4: a refused call 'forgets the typed tokens', UNSOUND");
        Sheet x = new Sheet();
        x.refuse(0, UNSOUND, NUMBER, 1, NUMBER, 2);
        x.token(ADD, 0, 1);
        x.formula(0, UNSOUND);
        x.token(NUMBER, 7, 1);
        x.formula(0, 0);
        x.value(0, 7);
        fillTokens(x);
        x.formula(0, UNSOUND);
        x.token(NUMBER, 8, 1);
    }

    private static void formulaForgetsTokensWhenCircle() {
        Due.part("promise 4: a refused call 'forgets the typed tokens', CIRCLE");
        Sheet x = new Sheet();
        x.refuse(0, CIRCLE, CELL, 0);
        x.formula(1, UNSOUND);
        x.refuse(0, CIRCLE, NUMBER, 1, CELL, 0, ADD, 0);
        x.token(NUMBER, 7, 1);
        x.formula(1, 0);
        x.value(1, 7);
        x.refuse(0, CIRCLE, CELL, 0, CELL, 1, CELL, 1, CELL, 1, CELL, 1, PICK, 0, ADD, 0, ADD, 0);
        x.token(NUMBER, 8, 1);
    }

    private static void formulaKeepsTokensWhenBadCell() {
        Due.part("promise 4: a refused call forgets the typed tokens 'unless it is BAD_CELL'");
        for (int cell : NO_CELLS) {
            Sheet x = new Sheet();
            x.type(NUMBER, 9, NUMBER, 4);
            x.formula(cell, BAD_CELL);
            x.token(SUB, 0, 3);
            x.formula(cell, BAD_CELL);
            x.formula(15, 0);
            x.value(15, 5);
            fillTokens(x);
            x.formula(cell, BAD_CELL);
            x.token(NUMBER, 1, FULL);
        }
    }

    private static void numberCellWithin() {
        Due.part("promise 5: cell in 0 to 15");
        for (int cell = 0; cell < CELLS; cell++) {
            Sheet x = new Sheet();
            x.number(cell, 6, 1);
            for (int c = 0; c < CELLS; c++) {
                x.value(c, c == cell ? 6 : 0);
            }
        }
    }

    private static void numberCellOutside() {
        Due.part("promise 5: 'cell not in 0 to 15: BAD_CELL'");
        for (int cell : NO_CELLS) {
            Sheet x = new Sheet();
            for (int value : ANY_INTS) {
                x.number(cell, value, BAD_CELL);
            }
            for (int c = 0; c < CELLS; c++) {
                x.value(c, 0);
            }
        }
    }

    private static void numberTakesAnyInt() {
        Due.part("promise 5: 'Makes the cell hold a number', the least and the greatest too");
        Sheet x = new Sheet();
        x.hold(1, CELL, 0);
        x.number(0, LEAST, 2);
        x.value(0, LEAST);
        x.value(1, LEAST);
        x.number(0, GREATEST, 2);
        x.value(0, GREATEST);
        x.value(1, GREATEST);
        x.number(0, GREATEST, 0);
        x.number(0, LEAST, 2);
        x.number(0, LEAST, 0);
        x.number(0, 0, 2);
    }

    private static void numberInsteadOfWhatItHeld() {
        Due.part("promise 5: 'instead of what it held'");
        Sheet x = new Sheet();
        x.number(0, 5, 1);
        x.hold(1, CELL, 0, NUMBER, 1, ADD, 0);
        x.number(1, 40, 1);
        x.isFormula(1, false);
        x.value(1, 40);
        x.dependents(0, 0);
        x.number(0, 6, 1);
        x.value(1, 40);
        x.hold(0, CELL, 1);
        x.value(0, 40);
        x.number(1, 41, 2);
    }

    private static void numberCountsNone() {
        Due.part("promise 5: 'how many cells have another value now', none");
        Sheet x = new Sheet();
        x.number(0, 0, 0);
        x.number(0, 5, 1);
        x.number(0, 5, 0);
        x.hold(1, CELL, 0, NUMBER, 2, MUL, 0);
        x.hold(2, CELL, 1);
        x.number(1, 10, 0);
        x.isFormula(1, false);
        x.hold(15, NUMBER, -3);
        x.number(15, -3, 0);
    }

    private static void numberCountsAll() {
        Due.part("promise 5: 'how many cells have another value now', all sixteen");
        int[] roots = {0, 7, 15};
        for (int root : roots) {
            Sheet x = new Sheet();
            for (int c = 0; c < CELLS; c++) {
                if (c != root) {
                    x.hold(c, CELL, root, NUMBER, c, ADD, 0);
                }
            }
            x.number(root, 1, 16);
            x.number(root, 1, 0);
            x.number(root, LEAST, 16);
        }
    }

    private static void numberCountsOnlyOtherValues() {
        Due.part("promise 5: 'how many cells have another value now than before this call', not how many depend");
        Sheet x = new Sheet();
        x.hold(1, CELL, 0, NUMBER, 2, MUL, 0);
        x.hold(2, CELL, 1);
        x.hold(3, CELL, 0, NUMBER, 10, MIN, 0);
        x.hold(4, CELL, 0, NUMBER, 10, MAX, 0);
        x.hold(5, CELL, 0, NUMBER, 1, NUMBER, 2, PICK, 0);
        x.hold(6, CELL, 0, CELL, 0, SUB, 0);
        x.dependents(0, 6);
        x.number(0, 5, 5);
        x.number(0, 5 + LEAST, 3);
        x.number(0, LEAST, 4);
        x.number(0, 20, 6);
        x.number(0, 21, 4);
        x.value(6, 0);
    }

    private static void valueOutside() {
        Due.part("promise 9: '0 if cell not in 0 to 15'");
        Sheet x = new Sheet();
        for (int c = 0; c < CELLS; c++) {
            x.number(c, 50 + c, 1);
        }
        for (int cell : NO_CELLS) {
            x.value(cell, 0);
        }
        x.value(0, 50);
        x.value(15, 65);
    }

    private static void dependentsNoneAndAll() {
        Due.part("promise 10: 'How many cells depend on this cell, directly or over others', none to fifteen");
        Sheet x = new Sheet();
        for (int c = 1; c < CELLS; c++) {
            x.dependents(0, c - 1);
            x.hold(c, CELL, c - 1);
        }
        Sheet y = new Sheet();
        for (int c = 14; c >= 0; c--) {
            y.hold(c, CELL, c + 1, CELL, c + 1, ADD, 0);
        }
        Sheet z = new Sheet();
        for (int c = 1; c < CELLS; c++) {
            z.hold(c, CELL, 0, CELL, c - 1, ADD, 0);
        }
        for (int c = 0; c < CELLS; c++) {
            x.dependents(c, 15 - c);
            y.dependents(c, c);
            z.dependents(c, 15 - c);
        }
    }

    private static void dependentsOutside() {
        Due.part("promise 10: 'BAD_CELL'");
        Sheet x = new Sheet();
        x.hold(1, CELL, 0);
        x.hold(14, CELL, 15);
        for (int cell : NO_CELLS) {
            x.dependents(cell, BAD_CELL);
        }
        x.dependents(0, 1);
        x.dependents(15, 1);
    }

    private static void isFormulaOutside() {
        Due.part("promise 11: 'false if cell not in 0 to 15'");
        Sheet x = new Sheet();
        for (int c = 0; c < CELLS; c++) {
            x.isFormula(c, false);
            x.hold(c, NUMBER, 0);
            x.isFormula(c, true);
        }
        for (int cell : NO_CELLS) {
            x.isFormula(cell, false);
        }
    }

    private static void badTokenBeforeFull() {
        Due.part("promise 12: 'token: BAD_TOKEN is tested before FULL'");
        Sheet x = new Sheet();
        fillTokens(x);
        for (int kind : NO_KINDS) {
            x.token(kind, 0, BAD_TOKEN);
        }
        for (int cell : NO_CELLS) {
            x.token(CELL, cell, BAD_TOKEN);
            x.token(NUMBER, cell, FULL);
            x.token(PICK, cell, FULL);
        }
        x.token(CELL, 0, FULL);
        x.token(CELL, 15, FULL);
        x.token(0, 0, FULL);
        x.token(7, 0, FULL);
    }
}
