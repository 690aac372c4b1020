/** The edges that "What it is" and "Terms" name, a test for each sentence. */
public final class TermsEdgesTest implements Words {
    public static void main(String[] args) {
        sixteenCells();
        everyCellCanNameEveryOther();
        theLastOf512Calls();
        laterCallsDoNotThrow();
        aCellHoldsAnyInt();
        additionWraps();
        subtractionWraps();
        multiplicationWraps();
        theSmallerAndTheLargerDoNotWrap();
        wrappedBeforeTheNextToken();
        wrappedBeforeTheNextCell();
        noTokensAreNoFormula();
        formulasOfOneToEightTokens();
        theNinthTokenIsNoPartOfAFormula();
        theStackBeginsEmpty();
        aNumberTokenPushesAnyInt();
        aCellTokenPushesTheFirstAndTheLastCell();
        workedOffFromLeftToRight();
        pickTakesYOnlyAboveZero();
        tooFewNumbersOnTheStack();
        tooFewNumbersLaterOn();
        tooFewNumbersThoughOneIsLeftAtTheEnd();
        moreThanOneLeftAtTheEnd();
        dependsDirectlyOverEveryPlaceOfAFormula();
        dependsOverAPartThatPickThrowsAway();
        noCellDependsOnItselfDirectly();
        noCellDependsOnItselfInAPartThrownAway();
        noCellDependsOnItselfOverOthers();
        noOtherCellDependsOnItself();
        twoWaysToACellAreNoCircle();
        theValueOfACell();
        Due.end();
    }

    private static void sixteenCells() {
        Due.part("what it is: 'sixteen CELLS (0 to 15)'");
        Sheet x = new Sheet();
        for (int c = 0; c < CELLS; c++) {
            x.number(c, 100 + c, 1);
        }
        for (int c = 0; c < CELLS; c++) {
            x.value(c, 100 + c);
        }
        for (int c = 0; c < CELLS; c++) {
            x.hold(c, NUMBER, 200 + c);
        }
        for (int c = 0; c < CELLS; c++) {
            x.value(c, 200 + c);
        }
    }

    private static void everyCellCanNameEveryOther() {
        Due.part("what it is: every cell of 0 to 15 can stand in the formula of every other");
        for (int cell = 0; cell < CELLS; cell++) {
            Sheet x = new Sheet();
            for (int named = 0; named < CELLS; named++) {
                if (named != cell) {
                    x.number(named, 100 + named, 1);
                    x.hold(cell, CELL, named);
                    x.value(cell, 100 + named);
                    x.dependents(named, 1);
                }
            }
        }
    }

    private static void theLastOf512Calls() {
        Due.part("what it is: 'used for at most 512 calls'");
        // Begun with 0 to 7 calls more, each call of the cycle is once the 512th.
        for (int first = 0; first < 8; first++) {
            Sheet x = new Sheet();
            for (int k = 0; k < first; k++) {
                x.clearTokens();
            }
            for (int n = 1; x.calls() < MOST_CALLS; n++) {
                cycle(x, n);
            }
        }
    }

    private static void cycle(Sheet x, int n) {
        Runnable[] calls = {
            () -> x.token(NUMBER, n, 1),
            () -> x.formula(3, 0),
            () -> x.value(3, n),
            () -> x.number(2, n, 1),
            () -> x.input(true, n, 1),
            () -> x.input(false, n, 1),
            () -> x.table(2, 2, 4, 1),
            () -> x.entry(0, 0, n),
        };
        for (int k = 0; k < calls.length && x.calls() < MOST_CALLS; k++) {
            calls[k].run();
        }
    }

    private static void laterCallsDoNotThrow() {
        Due.part("what it is: 'what later calls answer is free', but none may throw");
        WhatIfTables x = new WhatIfTables();
        for (int n = 0; n < 5000; n++) {
            x.token(n % 8, n % CELLS);
            x.input(n % 3 == 0, n);
            if (n % 11 == 0) {
                x.formula(n % CELLS);
            }
            if (n % 23 == 0) {
                x.table(n % CELLS, n % 7, 7 + n % 9);
            }
            x.number((n + 5) % CELLS, n);
            x.entry(n % 5, n % 3);
            x.value(n % CELLS);
            x.dependents(n % CELLS);
            x.isFormula(n % CELLS);
        }
    }

    private static void aCellHoldsAnyInt() {
        Due.part("terms: 'A cell holds a number (an int)'");
        for (int n : ANY_INTS) {
            Sheet x = new Sheet();
            x.number(0, n, n == 0 ? 0 : 1);
            x.value(0, n);
            x.number(15, n, n == 0 ? 0 : 1);
            x.value(15, n);
        }
    }

    // The same sum over number tokens, over cells, and in a table.
    private static void workedOut(int kind, int x, int y, int due) {
        Sheet sheet = new Sheet();
        sheet.hold(0, NUMBER, x, NUMBER, y, kind, 0);
        sheet.value(0, due);
        sheet.number(1, x, x == 0 ? 0 : 1);
        sheet.number(2, y, y == 0 ? 0 : 1);
        sheet.hold(3, CELL, 1, CELL, 2, kind, 0);
        sheet.value(3, due);
        sheet.hold(4, CELL, 5, CELL, 6, kind, 0);
        sheet.tableOf(4, 5, 6, new int[] {x}, new int[] {y}, due);
    }

    private static void additionWraps() {
        Due.part("terms: 'All arithmetic wraps', ADD");
        workedOut(ADD, GREATEST - 1, 1, GREATEST);
        workedOut(ADD, GREATEST, 1, LEAST);
        workedOut(ADD, 1, GREATEST, LEAST);
        workedOut(ADD, LEAST + 1, -1, LEAST);
        workedOut(ADD, LEAST, -1, GREATEST);
        workedOut(ADD, -1, LEAST, GREATEST);
        workedOut(ADD, LEAST, LEAST, 0);
        workedOut(ADD, GREATEST, GREATEST, -2);
        workedOut(ADD, LEAST, GREATEST, -1);
        workedOut(ADD, LEAST, 0, LEAST);
        workedOut(ADD, 0, GREATEST, GREATEST);
    }

    private static void subtractionWraps() {
        Due.part("terms: 'All arithmetic wraps', SUB");
        workedOut(SUB, LEAST + 1, 1, LEAST);
        workedOut(SUB, LEAST, 1, GREATEST);
        workedOut(SUB, GREATEST - 1, -1, GREATEST);
        workedOut(SUB, GREATEST, -1, LEAST);
        workedOut(SUB, -1, LEAST, GREATEST);
        workedOut(SUB, 0, LEAST, LEAST);
        workedOut(SUB, -1, GREATEST, LEAST);
        workedOut(SUB, -2, GREATEST, GREATEST);
        workedOut(SUB, LEAST, GREATEST, 1);
        workedOut(SUB, GREATEST, LEAST, -1);
        workedOut(SUB, LEAST, LEAST, 0);
        workedOut(SUB, GREATEST, GREATEST, 0);
    }

    private static void multiplicationWraps() {
        Due.part("terms: 'All arithmetic wraps', MUL");
        workedOut(MUL, 46340, 46340, 2147395600);
        workedOut(MUL, 46341, 46341, -2147479015);
        workedOut(MUL, 32768, 65535, 2147450880);
        workedOut(MUL, 32768, 65536, LEAST);
        workedOut(MUL, -32768, 65536, LEAST);
        workedOut(MUL, 65536, 65536, 0);
        workedOut(MUL, LEAST, 1, LEAST);
        workedOut(MUL, LEAST, -1, LEAST);
        workedOut(MUL, GREATEST, -1, LEAST + 1);
        workedOut(MUL, LEAST, 2, 0);
        workedOut(MUL, GREATEST, 2, -2);
        workedOut(MUL, LEAST, LEAST, 0);
        workedOut(MUL, GREATEST, GREATEST, 1);
        workedOut(MUL, GREATEST, LEAST, LEAST);
        // Here a product in double arithmetic would lose the last digits.
        workedOut(MUL, 1234567891, 1987654321, -989845021);
    }

    private static void theSmallerAndTheLargerDoNotWrap() {
        Due.part("terms: 'the smaller, the larger'");
        int[] rising = {LEAST, LEAST + 1, -5, -1, 0, 1, 5, GREATEST - 1, GREATEST};
        for (int a = 0; a < rising.length; a++) {
            for (int b = a; b < rising.length; b++) {
                workedOut(MIN, rising[a], rising[b], rising[a]);
                workedOut(MIN, rising[b], rising[a], rising[a]);
                workedOut(MAX, rising[a], rising[b], rising[b]);
                workedOut(MAX, rising[b], rising[a], rising[b]);
            }
        }
    }

    private static void wrappedBeforeTheNextToken() {
        Due.part("terms: 'All arithmetic wraps', each token by itself");
        Sheet x = new Sheet();
        x.hold(0, NUMBER, GREATEST, NUMBER, 1, ADD, 0, NUMBER, 20, NUMBER, 30, PICK, 0);
        x.value(0, 30);
        x.hold(1, NUMBER, LEAST, NUMBER, 1, SUB, 0, NUMBER, 20, NUMBER, 30, PICK, 0);
        x.value(1, 20);
        x.hold(2, NUMBER, 65536, NUMBER, 65536, MUL, 0, NUMBER, 20, NUMBER, 30, PICK, 0);
        x.value(2, 30);
        x.hold(3, NUMBER, GREATEST, NUMBER, 1, ADD, 0, NUMBER, 0, MIN, 0);
        x.value(3, LEAST);
        x.hold(4, NUMBER, LEAST, NUMBER, 1, SUB, 0, NUMBER, 0, MAX, 0);
        x.value(4, GREATEST);
        x.hold(5, NUMBER, GREATEST, NUMBER, 1, ADD, 0, NUMBER, 1, SUB, 0);
        x.value(5, GREATEST);
    }

    private static void wrappedBeforeTheNextCell() {
        Due.part("terms: 'All arithmetic wraps', each cell by itself");
        Sheet x = new Sheet();
        x.number(0, GREATEST, 1);
        x.hold(1, CELL, 0, NUMBER, 1, ADD, 0);
        x.hold(2, CELL, 1, NUMBER, 20, NUMBER, 30, PICK, 0);
        x.hold(3, CELL, 1, NUMBER, 0, MAX, 0);
        x.value(2, 30);
        x.value(3, 0);
        x.hold(4, CELL, 0, NUMBER, 2, MUL, 0);
        x.value(4, -2);
        x.number(0, -1, 2);
        x.value(1, 0);
        x.value(4, -2);
    }

    private static void noTokensAreNoFormula() {
        Due.part("terms: 'a list of 1 to 8 TOKENS', none");
        Sheet x = new Sheet();
        x.refuse(0, UNSOUND);
        x.refuse(15, UNSOUND);
        x.isFormula(0, false);
        x.isFormula(15, false);
    }

    // Sound formulas of each length that there can be; of two tokens there is none.
    private static void formulasOfOneToEightTokens() {
        Due.part("terms: 'a list of 1 to 8 TOKENS'");
        Sheet x = new Sheet();
        x.hold(1, NUMBER, 9);
        x.value(1, 9);
        x.hold(3, NUMBER, 9, NUMBER, 2, SUB, 0);
        x.value(3, 7);
        x.hold(4, NUMBER, 0, NUMBER, 2, NUMBER, 3, PICK, 0);
        x.value(4, 3);
        x.hold(5, NUMBER, 9, NUMBER, 2, SUB, 0, NUMBER, 4, MUL, 0);
        x.value(5, 28);
        x.hold(6, NUMBER, 9, NUMBER, 1, NUMBER, 2, NUMBER, 3, PICK, 0, SUB, 0);
        x.value(6, 7);
        x.hold(7, NUMBER, 0, NUMBER, 1, NUMBER, 1, NUMBER, 2, NUMBER, 3, PICK, 0, PICK, 0);
        x.value(7, 2);
        x.hold(8, NUMBER, 100, NUMBER, 10, NUMBER, 0, NUMBER, 2, NUMBER, 3, PICK, 0, MUL, 0, SUB, 0);
        x.value(8, 70);
        x.hold(15, CELL, 8, CELL, 7, MUL, 0, CELL, 6, CELL, 5, CELL, 4, PICK, 0, ADD, 0);
        x.value(15, 168);
        x.hold(14, CELL, 8, CELL, 7, MUL, 0, CELL, 6, CELL, 5, CELL, 4, PICK, 0, SUB, 0);
        x.value(14, 112);
    }

    private static void theNinthTokenIsNoPartOfAFormula() {
        Due.part("terms: 'a list of 1 to 8 TOKENS', nine");
        Sheet x = new Sheet();
        x.type(NUMBER, 100, NUMBER, 10, NUMBER, 0, NUMBER, 2, NUMBER, 3, PICK, 0, MUL, 0, SUB, 0);
        x.token(NUMBER, 5, FULL);
        x.formula(0, 0);
        x.value(0, 70);
        x.type(NUMBER, 1, NUMBER, 2, ADD, 0, NUMBER, 3, ADD, 0, NUMBER, 4, ADD, 0, NUMBER, 5);
        x.token(ADD, 0, FULL);
        x.formula(0, UNSOUND);
        x.value(0, 70);
    }

    private static void theStackBeginsEmpty() {
        Due.part("terms: 'a stack that begins empty'");
        Sheet x = new Sheet();
        x.hold(0, NUMBER, 5);
        x.refuse(1, UNSOUND, ADD, 0);
        x.refuse(1, UNSOUND, NUMBER, 5, NUMBER, 6, NUMBER, 7);
        x.refuse(1, UNSOUND, PICK, 0);
        x.refuse(1, UNSOUND, NUMBER, 8, ADD, 0);
        x.refuse(1, UNSOUND, NUMBER, 5, NUMBER, 6);
        x.hold(1, NUMBER, 9);
        x.value(1, 9);
        x.value(0, 5);
    }

    private static void aNumberTokenPushesAnyInt() {
        Due.part("terms: 'NUMBER n pushes n (any int)'");
        for (int n : ANY_INTS) {
            Sheet x = new Sheet();
            x.hold(0, NUMBER, n);
            x.value(0, n);
            x.hold(15, NUMBER, n, NUMBER, 0, ADD, 0);
            x.value(15, n);
        }
    }

    private static void aCellTokenPushesTheFirstAndTheLastCell() {
        Due.part("terms: 'CELL c pushes the value of cell c', the first and the last");
        Sheet x = new Sheet();
        x.number(0, 70, 1);
        x.number(15, 7, 1);
        x.hold(1, CELL, 0, CELL, 15, SUB, 0);
        x.value(1, 63);
        x.hold(0, CELL, 15, NUMBER, 1, ADD, 0);
        x.value(0, 8);
        x.value(1, 1);
    }

    private static void workedOffFromLeftToRight() {
        Due.part("terms: 'pop y, then x', 'pops z, then y, then x'");
        workedOut(SUB, 10, 3, 7);
        workedOut(SUB, 3, 10, -7);
        Sheet x = new Sheet();
        x.hold(0, NUMBER, 1, NUMBER, 2, NUMBER, 4, SUB, 0, SUB, 0);
        x.value(0, 3);
        x.hold(1, NUMBER, 1, NUMBER, 2, SUB, 0, NUMBER, 4, SUB, 0);
        x.value(1, -5);
        x.hold(2, NUMBER, 1, NUMBER, 0, NUMBER, -7, PICK, 0);
        x.value(2, 0);
        x.hold(3, NUMBER, -7, NUMBER, 1, NUMBER, 2, PICK, 0);
        x.value(3, 2);
        x.hold(4, NUMBER, 2, NUMBER, 3, NUMBER, 5, MUL, 0, ADD, 0);
        x.value(4, 17);
        x.hold(5, NUMBER, 2, NUMBER, 3, ADD, 0, NUMBER, 5, MUL, 0);
        x.value(5, 25);
    }

    private static void pickTakesYOnlyAboveZero() {
        Due.part("terms: 'pushes y if x > 0, else z'");
        int[] above = {1, 2, GREATEST};
        for (int condition : above) {
            picked(condition, 20, 30, 20);
            picked(condition, LEAST, GREATEST, LEAST);
            picked(condition, 0, 1, 0);
        }
        int[] notAbove = {0, -1, LEAST};
        for (int condition : notAbove) {
            picked(condition, 20, 30, 30);
            picked(condition, LEAST, GREATEST, GREATEST);
            picked(condition, 1, 0, 0);
        }
    }

    private static void picked(int condition, int y, int z, int due) {
        Sheet x = new Sheet();
        x.hold(0, NUMBER, condition, NUMBER, y, NUMBER, z, PICK, 0);
        x.value(0, due);
        x.number(1, condition, condition == 0 ? 0 : 1);
        x.hold(2, CELL, 1, NUMBER, y, NUMBER, z, PICK, 0);
        x.value(2, due);
        x.tableOf(2, 1, 15, new int[] {condition}, new int[] {9}, due);
    }

    private static void tooFewNumbersOnTheStack() {
        Due.part("terms: 'no token finds too few numbers on the stack'");
        for (int kind = ADD; kind <= MAX; kind++) {
            Sheet x = new Sheet();
            x.refuse(0, UNSOUND, kind, 0);
            x.refuse(0, UNSOUND, NUMBER, 4, kind, 0);
            x.refuse(0, UNSOUND, CELL, 1, kind, 0);
            x.hold(0, NUMBER, 4, NUMBER, 4, kind, 0);
            x.hold(0, CELL, 1, CELL, 1, kind, 0);
        }
        Sheet x = new Sheet();
        x.refuse(0, UNSOUND, PICK, 0);
        x.refuse(0, UNSOUND, NUMBER, 4, PICK, 0);
        x.refuse(0, UNSOUND, NUMBER, 4, NUMBER, 4, PICK, 0);
        x.refuse(0, UNSOUND, CELL, 1, CELL, 1, PICK, 0);
        x.hold(0, NUMBER, 4, NUMBER, 4, NUMBER, 4, PICK, 0);
        x.hold(0, CELL, 1, CELL, 1, CELL, 1, PICK, 0);
    }

    private static void tooFewNumbersLaterOn() {
        Due.part("terms: 'no token finds too few numbers on the stack', after others");
        for (int kind = ADD; kind <= MAX; kind++) {
            Sheet x = new Sheet();
            x.refuse(0, UNSOUND, NUMBER, 1, NUMBER, 2, ADD, 0, kind, 0);
            x.refuse(0, UNSOUND, NUMBER, 1, NUMBER, 2, NUMBER, 3, PICK, 0, kind, 0);
            x.refuse(0, UNSOUND, NUMBER, 1, NUMBER, 2, NUMBER, 3, kind, 0, PICK, 0);
            x.refuse(0, UNSOUND, NUMBER, 1, NUMBER, 2, NUMBER, 3, NUMBER, 4, kind, 0, kind, 0, kind, 0, kind, 0);
            x.hold(0, NUMBER, 1, NUMBER, 2, NUMBER, 3, NUMBER, 4, kind, 0, kind, 0, kind, 0);
            x.hold(0, NUMBER, 1, NUMBER, 2, NUMBER, 3, NUMBER, 4, kind, 0, PICK, 0);
        }
        Sheet x = new Sheet();
        x.refuse(0, UNSOUND, NUMBER, 1, NUMBER, 2, NUMBER, 3, PICK, 0, PICK, 0);
        x.refuse(0, UNSOUND, NUMBER, 1, NUMBER, 2, NUMBER, 3, NUMBER, 4, PICK, 0, PICK, 0);
        x.hold(0, NUMBER, 1, NUMBER, 2, NUMBER, 3, NUMBER, 4, NUMBER, 5, PICK, 0, PICK, 0);
    }

    // Whoever looks only at how many are left at the end takes all of these for sound.
    private static void tooFewNumbersThoughOneIsLeftAtTheEnd() {
        Due.part("terms: 'no token finds too few numbers on the stack', though one is left at the end");
        for (int kind = ADD; kind <= MAX; kind++) {
            Sheet x = new Sheet();
            x.refuse(0, UNSOUND, kind, 0, NUMBER, 1, NUMBER, 2);
            x.refuse(0, UNSOUND, NUMBER, 1, kind, 0, NUMBER, 2);
            x.refuse(0, UNSOUND, NUMBER, 1, kind, 0, kind, 0, NUMBER, 2, NUMBER, 3);
            x.refuse(0, UNSOUND, kind, 0, NUMBER, 1);
            x.refuse(0, UNSOUND, NUMBER, 1, NUMBER, 2, kind, 0, kind, 0, NUMBER, 3);
        }
        Sheet x = new Sheet();
        x.refuse(0, UNSOUND, PICK, 0, NUMBER, 1, NUMBER, 2, NUMBER, 3);
        x.refuse(0, UNSOUND, NUMBER, 1, PICK, 0, NUMBER, 2, NUMBER, 3);
        x.refuse(0, UNSOUND, NUMBER, 1, NUMBER, 2, PICK, 0, NUMBER, 3);
        x.refuse(0, UNSOUND, PICK, 0, NUMBER, 1);
    }

    private static void moreThanOneLeftAtTheEnd() {
        Due.part("terms: 'exactly one is left at the end'");
        Sheet x = new Sheet();
        for (int left = 2; left <= 8; left++) {
            for (int k = 1; k <= left; k++) {
                x.token(k % 2 == 0 ? NUMBER : CELL, k, k);
            }
            x.formula(0, UNSOUND);
        }
        for (int kind = ADD; kind <= MAX; kind++) {
            x.refuse(0, UNSOUND, NUMBER, 1, NUMBER, 2, NUMBER, 3, kind, 0);
            x.refuse(0, UNSOUND, NUMBER, 1, NUMBER, 2, kind, 0, NUMBER, 3);
        }
        x.refuse(0, UNSOUND, NUMBER, 1, NUMBER, 2, NUMBER, 3, NUMBER, 4, PICK, 0);
        x.refuse(0, UNSOUND, NUMBER, 1, NUMBER, 2, NUMBER, 3, PICK, 0, NUMBER, 4);
        x.isFormula(0, false);
        x.hold(0, CELL, 1);
        x.hold(0, NUMBER, 1);
    }

    private static void dependsDirectlyOverEveryPlaceOfAFormula() {
        Due.part("terms: 'DEPENDS DIRECTLY on every cell that a CELL token of its formula names'");
        Sheet x = new Sheet();
        x.hold(8, CELL, 0, CELL, 1, CELL, 2, CELL, 3, CELL, 15, PICK, 0, PICK, 0);
        int[] named = {0, 1, 2, 3, 15};
        for (int cell : named) {
            x.dependents(cell, 1);
            x.refuse(cell, CIRCLE, CELL, 8);
        }
        x.dependents(4, 0);
        x.dependents(7, 0);
        x.dependents(8, 0);
        x.hold(8, NUMBER, 1, NUMBER, 2, ADD, 3, NUMBER, 4, SUB, 5, CELL, 6, MIN, 7);
        x.dependents(6, 1);
        for (int cell = 0; cell < 6; cell++) {
            x.dependents(cell, 0);
        }
        x.dependents(7, 0);
    }

    private static void dependsOverAPartThatPickThrowsAway() {
        Due.part("terms: 'also in a part that PICK throws away'");
        Sheet x = new Sheet();
        x.number(1, 10, 1);
        x.number(2, 20, 1);
        x.hold(3, NUMBER, 1, CELL, 1, CELL, 2, PICK, 0);
        x.value(3, 10);
        x.dependents(1, 1);
        x.dependents(2, 1);
        x.number(2, 21, 1);
        x.hold(3, NUMBER, 0, CELL, 1, CELL, 2, PICK, 0);
        x.value(3, 21);
        x.dependents(1, 1);
        x.dependents(2, 1);
        x.number(1, 11, 1);
        x.hold(4, NUMBER, 1, NUMBER, 5, CELL, 3, NUMBER, 6, ADD, 0, PICK, 0);
        x.value(4, 5);
        x.dependents(3, 1);
        x.dependents(1, 2);
    }

    private static void noCellDependsOnItselfDirectly() {
        Due.part("terms: 'never be a cell that depends on itself, directly'");
        for (int cell = 0; cell < CELLS; cell++) {
            int other = (cell + 1) % CELLS;
            Sheet x = new Sheet();
            x.number(cell, 5, 1);
            x.refuse(cell, CIRCLE, CELL, cell);
            x.refuse(cell, CIRCLE, CELL, cell, NUMBER, 1, ADD, 0);
            x.refuse(cell, CIRCLE, NUMBER, 1, CELL, cell, ADD, 0);
            x.refuse(cell, CIRCLE, NUMBER, 0, CELL, cell, MUL, 0);
            x.refuse(cell, CIRCLE, CELL, cell, CELL, cell, SUB, 0);
            x.refuse(cell, CIRCLE, CELL, other, CELL, other, CELL, other, CELL, other, CELL, cell, PICK, 0, ADD, 0, ADD, 0);
            x.refuse(cell, CIRCLE, CELL, cell, CELL, other, CELL, other, CELL, other, CELL, other, PICK, 0, ADD, 0, ADD, 0);
            x.value(cell, 5);
            x.isFormula(cell, false);
            x.dependents(cell, 0);
            x.hold(cell, CELL, other);
        }
    }

    private static void noCellDependsOnItselfInAPartThrownAway() {
        Due.part("terms: 'never be a cell that depends on itself', nor in a part that PICK throws away");
        Sheet x = new Sheet();
        x.refuse(3, CIRCLE, NUMBER, 1, NUMBER, 2, CELL, 3, PICK, 0);
        x.refuse(3, CIRCLE, NUMBER, 0, CELL, 3, NUMBER, 2, PICK, 0);
        x.hold(4, NUMBER, 1, NUMBER, 2, CELL, 3, PICK, 0);
        x.refuse(3, CIRCLE, CELL, 4);
        x.refuse(3, CIRCLE, NUMBER, 1, NUMBER, 2, CELL, 4, PICK, 0);
        x.refuse(3, CIRCLE, NUMBER, -1, CELL, 4, NUMBER, 2, PICK, 0);
        x.isFormula(3, false);
        x.value(4, 2);
    }

    private static void noCellDependsOnItselfOverOthers() {
        Due.part("terms: 'never be a cell that depends on itself, directly or over others'");
        // Steps that share no factor with 16: the chains run up, down and to and fro over the cells.
        int[] steps = {1, 3, 5, 7, 9, 11, 13, 15};
        for (int step : steps) {
            for (int length = 2; length <= CELLS; length++) {
                circleOf(length, step);
            }
        }
    }

    // A chain in which each cell names the next; its last cell may not name the first, but, if there is one, a cell beside it.
    private static void circleOf(int length, int step) {
        Sheet x = new Sheet();
        int last = (length - 1) * step % CELLS;
        for (int k = 0; k < length - 1; k++) {
            x.hold(k * step % CELLS, CELL, (k + 1) * step % CELLS, NUMBER, 1, ADD, 0);
        }
        x.number(last, 50, length);
        x.refuse(last, CIRCLE, CELL, 0);
        x.isFormula(last, false);
        x.value(last, 50);
        x.value(0, 50 + length - 1);
        x.dependents(last, length - 1);
        if (length < CELLS) {
            x.hold(last, CELL, length * step % CELLS);
            x.value(0, length - 1);
        }
    }

    private static void noOtherCellDependsOnItself() {
        Due.part("promise 4: 'some cell would depend on itself then', over a chain on both sides");
        Sheet x = new Sheet();
        x.hold(9, CELL, 2);
        x.hold(5, CELL, 9);
        x.hold(12, CELL, 4);
        x.hold(2, CELL, 12);
        x.refuse(4, CIRCLE, NUMBER, 3, CELL, 5, MUL, 0);
        x.refuse(4, CIRCLE, CELL, 9);
        x.refuse(4, CIRCLE, CELL, 12);
        x.hold(4, NUMBER, 3, CELL, 6, ADD, 0);
        x.value(5, 3);
    }

    private static void twoWaysToACellAreNoCircle() {
        Due.part("terms: two ways to the same cell are no circle");
        Sheet x = new Sheet();
        x.hold(1, CELL, 0);
        x.hold(2, CELL, 0);
        x.hold(3, CELL, 1, CELL, 2, ADD, 0);
        x.hold(3, CELL, 1, CELL, 1, ADD, 0, CELL, 0, ADD, 0);
        x.hold(4, CELL, 3, CELL, 0, ADD, 0);
        x.number(0, 2, 5);
        x.value(4, 8);
        x.dependents(0, 4);
    }

    private static void theValueOfACell() {
        Due.part("terms: 'its number, or the value of its formula over the values of the cells named'");
        Sheet x = new Sheet();
        x.number(6, 3, 1);
        x.value(6, 3);
        x.hold(6, CELL, 7, NUMBER, 1, ADD, 0);
        x.value(6, 1);
        x.hold(7, CELL, 8, NUMBER, 2, MUL, 0);
        x.number(8, 4, 3);
        x.value(7, 8);
        x.value(6, 9);
        x.number(7, 0, 2);
        x.value(6, 1);
    }
}
