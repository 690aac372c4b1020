import java.util.function.Consumer;

/** What a refused call leaves as it was, and what each other call leaves, on objects with several pasts. */
public final class RefusedCallsTest implements Words {
    private static final Consumer<Sheet> NEW = x -> { };

    // Numbers, formulas over others, a table that is smaller than the one before it, and tokens and inputs begun.
    private static final Consumer<Sheet> BEGUN = x -> {
        x.inputs(true, 61, 62, 63, 64);
        x.inputs(false, 71, 72, 73, 74);
        x.table(0, 0, 2, 16);
        x.number(0, 4, 1);
        x.number(2, -3, 1);
        x.number(14, 9, 1);
        x.hold(1, CELL, 0, NUMBER, 2, MUL, 0);
        x.hold(3, CELL, 1, CELL, 2, ADD, 0);
        x.hold(15, CELL, 14, CELL, 3, NUMBER, 6, PICK, 0);
        x.hold(13, NUMBER, 5);
        x.inputs(true, 10, 20);
        x.inputs(false, 1, 2, 3);
        x.table(3, 0, 2, 6);
        x.inputs(true, 11, 12);
        x.inputs(false, 13);
        x.type(CELL, 2, NUMBER, 5);
    };

    // Every list is full, every cell holds something, and the table has all sixteen entries; the tokens are sound.
    private static final Consumer<Sheet> FILLED = x -> {
        x.number(8, 70, 1);
        for (int c = 7; c >= 0; c--) {
            x.hold(c, CELL, c + 1, NUMBER, c, ADD, 0);
        }
        for (int c = 9; c < CELLS; c++) {
            x.number(c, 2 * c, 1);
        }
        x.inputs(true, 21, 22, 23, 24);
        x.inputs(false, 31, 32, 33, 34);
        x.table(0, 8, 4, 16);
        x.inputs(true, 41, 42, 43, 44);
        x.inputs(false, 51, 52, 53, 54);
        x.type(CELL, 9, CELL, 10, CELL, 11, CELL, 12, NUMBER, 3, PICK, 0, MUL, 0, SUB, 0);
    };

    // As BEGUN, but the greatest and the least int wherever a number stands.
    private static final Consumer<Sheet> EXTREME = x -> {
        x.number(0, GREATEST, 1);
        x.number(15, LEAST, 1);
        x.hold(1, CELL, 0, NUMBER, GREATEST, ADD, LEAST);
        x.hold(2, CELL, 15, NUMBER, LEAST, MIN, GREATEST);
        x.inputs(true, LEAST, GREATEST);
        x.inputs(false, GREATEST, LEAST);
        x.table(1, 0, 15, 4);
        x.inputs(true, GREATEST);
        x.inputs(false, LEAST, GREATEST);
        x.type(NUMBER, LEAST);
    };

    private static Consumer<Sheet>[] pasts() {
        @SuppressWarnings({"unchecked", "rawtypes"})
        Consumer<Sheet>[] all = new Consumer[] {NEW, BEGUN, FILLED, EXTREME};
        return all;
    }

    public static void main(String[] args) {
        pastsAreUnlike();

        badKindChangesNothing();
        badCellOfATokenChangesNothing();
        fullTokensChangeNothing();
        badCellOfAFormulaChangesNothing();
        unsoundChangesNothingButTokens();
        circleChangesNothingButTokens();
        badCellOfANumberChangesNothing();
        fullInputsChangeNothing();
        badCellOfATableChangesNothing();
        sameCellsOfATableChangeNothing();

        entryChangesNothing();
        valueChangesNothing();
        dependentsChangesNothing();
        isFormulaChangesNothing();

        tokenChangesTokensOnly();
        clearTokensChangesTokensOnly();
        formulaLeavesInputsAndTable();
        numberLeavesTheRest();
        inputChangesInputsOnly();
        tableLeavesCellsAndTokens();
        Due.end();
    }

    // The comparisons below prove nothing if State can't tell these apart.
    private static void pastsAreUnlike() {
        Due.part("the pasts of this test");
        for (Consumer<Sheet> past : pasts()) {
            if (past != NEW) {
                Due.same("cells like new", State.cells(past).equals(State.cells(NEW)), false);
                Due.same("tokens like new", State.tokens(past).equals(State.tokens(past.andThen(Sheet::clearTokens))), false);
                Due.same("inputs like new", State.inputs(past).equals(State.inputs(NEW)), false);
                Due.same("table like new", State.table(past).equals(State.table(NEW)), false);
            }
        }
    }

    private static void changesNothing(String call, Consumer<Sheet> past, Consumer<Sheet> refused) {
        Due.sameText("after " + call, State.all(past.andThen(refused)), State.all(past));
    }

    private static void changesNothing(String call, Consumer<Sheet> refused) {
        for (Consumer<Sheet> past : pasts()) {
            changesNothing(call, past, refused);
        }
    }

    private static void badKindChangesNothing() {
        Due.part("promise 2: 'BAD_TOKEN; nothing changes then', a kind not in 0 to 7");
        for (int kind : NO_KINDS) {
            changesNothing("token(" + kind + ", 0)", x -> x.token(kind, 0, BAD_TOKEN));
            changesNothing("token(" + kind + ", 16)", x -> x.token(kind, 16, BAD_TOKEN));
        }
    }

    private static void badCellOfATokenChangesNothing() {
        Due.part("promise 2: 'BAD_TOKEN; nothing changes then', a CELL not in 0 to 15");
        for (int cell : NO_CELLS) {
            changesNothing("token(1, " + cell + ")", x -> x.token(CELL, cell, BAD_TOKEN));
        }
    }

    private static void fullTokensChangeNothing() {
        Due.part("promise 2: 'FULL; nothing changes then'");
        // With room in the input lists, unlike FILLED.
        Consumer<Sheet> fullTokens = BEGUN.andThen(x -> {
            x.clearTokens();
            x.type(CELL, 0, CELL, 2, CELL, 14, CELL, 5, NUMBER, 3, PICK, 0, MUL, 0, SUB, 0);
        });
        for (int kind = 0; kind <= 7; kind++) {
            int k = kind;
            changesNothing("token(" + k + ", 3)", FILLED, x -> x.token(k, 3, FULL));
            changesNothing("token(" + k + ", 3) with room for inputs", fullTokens, x -> x.token(k, 3, FULL));
        }
        changesNothing("two tokens", FILLED, x -> {
            x.token(NUMBER, LEAST, FULL);
            x.token(ADD, GREATEST, FULL);
        });
    }

    private static void badCellOfAFormulaChangesNothing() {
        Due.part("promise 4: 'A refused call changes nothing, but forgets the typed tokens unless it is BAD_CELL'");
        Consumer<Sheet> soundTokens = BEGUN.andThen(x -> x.token(SUB, 0, 3));
        for (int cell : NO_CELLS) {
            changesNothing("formula(" + cell + ")", x -> x.formula(cell, BAD_CELL));
            changesNothing("formula(" + cell + ") with sound tokens", soundTokens, x -> x.formula(cell, BAD_CELL));
        }
    }

    // What is left is what clearTokens leaves.
    private static void changesTokensOnly(String call, Consumer<Sheet> past, Consumer<Sheet> refused) {
        Due.sameText("after " + call, State.all(past.andThen(refused)), State.all(past.andThen(Sheet::clearTokens)));
    }

    private static void unsoundChangesNothingButTokens() {
        Due.part("promise 4: 'A refused call changes nothing, but forgets the typed tokens', UNSOUND");
        for (int cell = 0; cell < CELLS; cell++) {
            int c = cell;
            Consumer<Sheet> refused = x -> x.formula(c, UNSOUND);
            changesTokensOnly("formula(" + c + ") without tokens", NEW, refused);
            changesTokensOnly("formula(" + c + ") with two numbers", BEGUN, refused);
            changesTokensOnly("formula(" + c + ") with too few numbers", EXTREME.andThen(x -> x.token(PICK, 0, 2)), refused);
            changesTokensOnly("formula(" + c + ") with eight tokens", FILLED.andThen(x -> {
                x.clearTokens();
                x.type(CELL, c, CELL, c, CELL, 1, CELL, 2, CELL, 3, CELL, 4, CELL, 5, CELL, 6);
            }), refused);
        }
    }

    private static void circleChangesNothingButTokens() {
        Due.part("promise 4: 'A refused call changes nothing, but forgets the typed tokens', CIRCLE");
        for (int cell = 0; cell < CELLS; cell++) {
            int c = cell;
            for (Consumer<Sheet> past : pasts()) {
                changesTokensOnly("formula(" + c + ") of itself", past.andThen(x -> {
                    x.clearTokens();
                    x.type(NUMBER, 100, CELL, c, ADD, 0);
                }), x -> x.formula(c, CIRCLE));
            }
        }
        int[][] overOthers = {{0, 1}, {0, 3}, {0, 15}, {2, 3}, {2, 15}, {14, 15}, {1, 3}};
        for (int[] pair : overOthers) {
            changesTokensOnly("formula(" + pair[0] + ") of cell " + pair[1], BEGUN.andThen(x -> {
                x.clearTokens();
                x.type(CELL, pair[1], NUMBER, 100, CELL, 5, PICK, 0);
            }), x -> x.formula(pair[0], CIRCLE));
        }
        for (int c = 1; c <= 8; c++) {
            int last = c;
            changesTokensOnly("formula(" + c + ") of cell 0", FILLED.andThen(x -> {
                x.clearTokens();
                x.type(CELL, 0);
            }), x -> x.formula(last, CIRCLE));
        }
    }

    private static void badCellOfANumberChangesNothing() {
        Due.part("promise 5: 'cell not in 0 to 15: BAD_CELL, nothing changes'");
        for (int cell : NO_CELLS) {
            changesNothing("number(" + cell + ", 99)", x -> x.number(cell, 99, BAD_CELL));
            changesNothing("number(" + cell + ", least)", BEGUN, x -> x.number(cell, LEAST, BAD_CELL));
            changesNothing("number(" + cell + ", greatest)", BEGUN, x -> x.number(cell, GREATEST, BAD_CELL));
        }
    }

    private static void fullInputsChangeNothing() {
        Due.part("promise 6: 'The list has four: FULL, nothing changes'");
        for (int value : ANY_INTS) {
            changesNothing("input(true, " + value + ")", FILLED, x -> x.input(true, value, FULL));
            changesNothing("input(false, " + value + ")", FILLED, x -> x.input(false, value, FULL));
        }
        Consumer<Sheet> fullRows = BEGUN.andThen(x -> {
            x.input(true, 1, 3);
            x.input(true, 2, 4);
        });
        changesNothing("input(true, 99) with one column input", fullRows, x -> x.input(true, 99, FULL));
        Consumer<Sheet> fullColumns = BEGUN.andThen(x -> {
            x.input(false, 1, 2);
            x.input(false, 2, 3);
            x.input(false, 3, 4);
        });
        changesNothing("input(false, 99) with two row inputs", fullColumns, x -> x.input(false, 99, FULL));
    }

    private static void badCellOfATableChangesNothing() {
        Due.part("promise 7: 'BAD_CELL, nothing changes (the old table and the lists stay)', a cell not in 0 to 15");
        for (int cell : NO_CELLS) {
            changesNothing("table(" + cell + ", 0, 2)", x -> x.table(cell, 0, 2, BAD_CELL));
            changesNothing("table(3, " + cell + ", 2)", x -> x.table(3, cell, 2, BAD_CELL));
            changesNothing("table(3, 0, " + cell + ")", x -> x.table(3, 0, cell, BAD_CELL));
        }
    }

    private static void sameCellsOfATableChangeNothing() {
        Due.part("promise 7: 'rowCell == columnCell: BAD_CELL, nothing changes (the old table and the lists stay)'");
        for (int cell = 0; cell < CELLS; cell++) {
            int c = cell;
            changesNothing("table(3, " + c + ", " + c + ")", x -> x.table(3, c, c, BAD_CELL));
        }
    }

    private static void entryChangesNothing() {
        Due.part("terms: 'The calls below change nothing', entry");
        int[] places = {-1, 0, 3, 4, LEAST, GREATEST};
        changesNothing("entry", x -> {
            for (int i : places) {
                for (int j : places) {
                    x.tables().entry(i, j);
                }
            }
        });
    }

    private static void valueChangesNothing() {
        Due.part("terms: 'The calls below change nothing', value");
        changesNothing("value within", x -> {
            for (int c = 0; c < CELLS; c++) {
                x.tables().value(c);
            }
        });
        for (int cell : NO_CELLS) {
            changesNothing("value(" + cell + ")", x -> x.value(cell, 0));
        }
    }

    private static void dependentsChangesNothing() {
        Due.part("terms: 'The calls below change nothing', dependents");
        changesNothing("dependents within", x -> {
            for (int c = 0; c < CELLS; c++) {
                x.tables().dependents(c);
            }
        });
        for (int cell : NO_CELLS) {
            changesNothing("dependents(" + cell + ")", x -> x.dependents(cell, BAD_CELL));
        }
    }

    private static void isFormulaChangesNothing() {
        Due.part("terms: 'The calls below change nothing', isFormula");
        changesNothing("isFormula within", x -> {
            for (int c = 0; c < CELLS; c++) {
                x.tables().isFormula(c);
            }
        });
        for (int cell : NO_CELLS) {
            changesNothing("isFormula(" + cell + ")", x -> x.isFormula(cell, false));
        }
    }

    private static void sameCells(Consumer<Sheet> past, Consumer<Sheet> then) {
        Due.sameText("cells", State.cells(past.andThen(then)), State.cells(past));
    }

    private static void sameTokens(Consumer<Sheet> past, Consumer<Sheet> then) {
        Due.sameText("tokens", State.tokens(past.andThen(then)), State.tokens(past));
    }

    private static void sameInputs(Consumer<Sheet> past, Consumer<Sheet> then) {
        Due.sameText("inputs", State.inputs(past.andThen(then)), State.inputs(past));
    }

    private static void sameTable(Consumer<Sheet> past, Consumer<Sheet> then) {
        Due.sameText("table", State.table(past.andThen(then)), State.table(past));
    }

    private static void tokenChangesTokensOnly() {
        Due.part("promise 2: token types a token and does no more");
        Consumer<Sheet> then = x -> x.token(CELL, 15, 3);
        sameCells(BEGUN, then);
        sameInputs(BEGUN, then);
        sameTable(BEGUN, then);
    }

    private static void clearTokensChangesTokensOnly() {
        Due.part("promise 3: clearTokens forgets the typed tokens and does no more");
        for (Consumer<Sheet> past : pasts()) {
            sameCells(past, Sheet::clearTokens);
            sameInputs(past, Sheet::clearTokens);
            sameTable(past, Sheet::clearTokens);
            sameTokens(past.andThen(Sheet::clearTokens), Sheet::clearTokens);
        }
    }

    private static void formulaLeavesInputsAndTable() {
        Due.part("promise 4: formula changes the cell, forgets the tokens and does no more");
        for (int cell = 0; cell < CELLS; cell++) {
            int c = cell;
            if (c < 9 || c > 12) {
                sameInputs(FILLED, x -> x.formula(c, 0));
                sameTable(FILLED, x -> x.formula(c, 0));
            }
        }
    }

    private static void numberLeavesTheRest() {
        Due.part("promise 5: number changes the cell and does no more");
        for (int cell = 0; cell < CELLS; cell++) {
            int c = cell;
            Consumer<Sheet> then = x -> x.tables().number(c, 123);
            sameInputs(BEGUN, then);
            sameTable(BEGUN, then);
            sameInputs(FILLED, then);
            sameTable(FILLED, then);
        }
        Consumer<Sheet> sameNumber = x -> x.number(0, 4, 0);
        sameTokens(BEGUN, sameNumber);
        sameCells(BEGUN, sameNumber);
    }

    private static void inputChangesInputsOnly() {
        Due.part("promise 6: input types an input and does no more");
        Consumer<Sheet> then = x -> {
            x.input(true, LEAST, 3);
            x.input(false, GREATEST, 2);
        };
        sameCells(BEGUN, then);
        sameTokens(BEGUN, then);
        sameTable(BEGUN, then);
    }

    private static void tableLeavesCellsAndTokens() {
        Due.part("promise 7: 'Nothing else changes: all cells hold afterwards what they held. Both input lists are forgotten'");
        for (int rowCell = 0; rowCell < CELLS; rowCell++) {
            int row = rowCell;
            int column = (rowCell + 1) % CELLS;
            for (Consumer<Sheet> past : pasts()) {
                Consumer<Sheet> then = x -> x.tables().table(3, row, column);
                sameCells(past, then);
                sameTokens(past, then);
                Due.sameText("inputs", State.inputs(past.andThen(then)), State.inputs(NEW));
            }
        }
    }
}
