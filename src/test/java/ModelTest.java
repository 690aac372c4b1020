import java.util.ArrayList;
import java.util.HashMap;
import java.util.List;
import java.util.Map;
import java.util.Set;
import java.util.TreeSet;

/** Long runs of mixed calls, each answer compared with a second, unlike writing of the document. */
public final class ModelTest {
    private static final int RUNS = 3000;
    // An object is good for 512 calls; the look at its state at the end takes 48 of them.
    private static final int CALLS = 512 - 48;

    // The document once more, with the library and with recursion; cells without a formula are not in 'formulas'.
    private static final class Model {
        final int[] numbers = new int[16];
        final Map<Integer, List<int[]>> formulas = new HashMap<>();
        List<int[]> typed = new ArrayList<>();
        final List<Integer> rows = new ArrayList<>();
        final List<Integer> columns = new ArrayList<>();
        int[][] table = new int[0][0];

        static boolean bad(int cell) {
            return cell < 0 || cell > 15;
        }

        int token(int kind, int argument) {
            if (kind < 0 || kind > 7 || kind == 1 && bad(argument)) {
                return -2;
            }
            if (typed.size() == 8) {
                return -3;
            }
            typed.add(new int[] {kind, argument});
            return typed.size();
        }

        int formula(int cell) {
            if (bad(cell)) {
                return -1;
            }
            List<int[]> tokens = typed;
            typed = new ArrayList<>();
            if (!sound(tokens)) {
                return -4;
            }
            List<int[]> old = formulas.put(cell, tokens);
            for (int c = 0; c < 16; c++) {
                if (below(c).contains(c)) {
                    if (old == null) {
                        formulas.remove(cell);
                    } else {
                        formulas.put(cell, old);
                    }
                    return -5;
                }
            }
            return 0;
        }

        static boolean sound(List<int[]> tokens) {
            int height = 0;
            for (int[] token : tokens) {
                int pops = token[0] < 2 ? 0 : token[0] == 7 ? 3 : 2;
                if (pops > height) {
                    return false;
                }
                height += 1 - pops;
            }
            return height == 1;
        }

        // All cells that a cell depends on, directly or over others.
        Set<Integer> below(int cell) {
            Set<Integer> found = new TreeSet<>();
            gather(cell, found);
            return found;
        }

        void gather(int cell, Set<Integer> found) {
            for (int[] token : formulas.getOrDefault(cell, List.of())) {
                if (token[0] == 1 && found.add(token[1])) {
                    gather(token[1], found);
                }
            }
        }

        int number(int cell, int value) {
            if (bad(cell)) {
                return -1;
            }
            int[] before = values();
            formulas.remove(cell);
            numbers[cell] = value;
            int[] after = values();
            int changed = 0;
            for (int c = 0; c < 16; c++) {
                changed += before[c] == after[c] ? 0 : 1;
            }
            return changed;
        }

        int[] values() {
            Map<Integer, Integer> known = new HashMap<>();
            int[] all = new int[16];
            for (int c = 0; c < 16; c++) {
                all[c] = value(c, known);
            }
            return all;
        }

        int value(int cell, Map<Integer, Integer> known) {
            if (known.containsKey(cell)) {
                return known.get(cell);
            }
            int result = numbers[cell];
            if (formulas.containsKey(cell)) {
                List<Integer> stack = new ArrayList<>();
                for (int[] token : formulas.get(cell)) {
                    push(stack, token, known);
                }
                result = stack.get(0);
            }
            known.put(cell, result);
            return result;
        }

        void push(List<Integer> stack, int[] token, Map<Integer, Integer> known) {
            if (token[0] == 0) {
                stack.add(token[1]);
                return;
            }
            if (token[0] == 1) {
                stack.add(value(token[1], known));
                return;
            }
            int z = token[0] == 7 ? stack.remove(stack.size() - 1) : 0;
            int y = stack.remove(stack.size() - 1);
            int x = stack.remove(stack.size() - 1);
            int[] results = {0, 0, x + y, x - y, x * y, Math.min(x, y), Math.max(x, y), x > 0 ? y : z};
            stack.add(results[token[0]]);
        }

        int input(boolean row, int value) {
            List<Integer> list = row ? rows : columns;
            if (list.size() == 4) {
                return -3;
            }
            list.add(value);
            return list.size();
        }

        int table(int out, int rowCell, int columnCell) {
            if (bad(out) || bad(rowCell) || bad(columnCell) || rowCell == columnCell) {
                return -1;
            }
            table = new int[rows.size()][columns.size()];
            for (int i = 0; i < rows.size(); i++) {
                for (int j = 0; j < columns.size(); j++) {
                    Map<Integer, Integer> known = new HashMap<>();
                    known.put(rowCell, rows.get(i));
                    known.put(columnCell, columns.get(j));
                    table[i][j] = value(out, known);
                }
            }
            int size = rows.size() * columns.size();
            rows.clear();
            columns.clear();
            return size;
        }

        int entry(int i, int j) {
            return i < 0 || i >= table.length || j < 0 || j >= table[i].length ? 0 : table[i][j];
        }

        int dependents(int cell) {
            if (bad(cell)) {
                return -1;
            }
            int count = 0;
            for (int c = 0; c < 16; c++) {
                count += below(c).contains(cell) ? 1 : 0;
            }
            return count;
        }
    }

    private static long seed;

    // A generator of our own with a fixed seed, so that every run of the test makes the same calls.
    private static int next(int bound) {
        seed = seed * 6364136223846793005L + 1442695040888963407L;
        return (int) ((seed >>> 33) % bound);
    }

    private static int someNumber() {
        int[] edges = {Integer.MIN_VALUE, Integer.MAX_VALUE, 0, 1, -1, 65536};
        int choice = next(8);
        return choice == 0 ? edges[next(edges.length)] : choice == 1 ? next(1 << 30) * 4 + next(4) : next(21) - 10;
    }

    private static int someCell(int cells) {
        int[] bad = {-1, 16, Integer.MIN_VALUE, Integer.MAX_VALUE};
        return next(40) == 0 ? bad[next(bad.length)] : next(cells);
    }

    public static void main(String[] args) {
        int[] seen = new int[6];
        for (int run = 0; run < RUNS && !Due.anyWrong(); run++) {
            seed = run;
            Due.part("run " + run);
            // Few cells make circles and shared chains common, all sixteen make long chains possible.
            int cells = 3 + next(14);
            WhatIfTables x = new WhatIfTables();
            Model m = new Model();
            int calls = 0;
            while (calls < CALLS) {
                calls += step(x, m, cells, CALLS - calls, seen);
            }
            sameState(x, m);
        }
        // The runs prove little if they never hold a formula or never meet a circle.
        Due.same("formula answers 0, UNSOUND and CIRCLE often",
            seen[0] > 1000 && seen[-WhatIfTables.UNSOUND] > 1000 && seen[-WhatIfTables.CIRCLE] > 1000, true);
        Due.end();
    }

    private static int step(WhatIfTables x, Model m, int cells, int room, int[] seen) {
        switch (next(12)) {
            case 0:
            case 1:
            case 2:
                return soundFormula(x, m, cells, room, seen);
            case 3: {
                int kind = next(10) - 1;
                int argument = kind == 1 ? someCell(cells) : someNumber();
                Due.same("token(" + kind + ", " + argument + ")", x.token(kind, argument), m.token(kind, argument));
                return 1;
            }
            case 4: {
                if (next(3) == 0) {
                    x.clearTokens();
                    m.typed.clear();
                    return 1;
                }
                formula(x, m, someCell(cells), seen);
                return 1;
            }
            case 5: {
                int cell = someCell(cells);
                int value = someNumber();
                Due.same("number(" + cell + ", " + value + ")", x.number(cell, value), m.number(cell, value));
                return 1;
            }
            case 6:
            case 7: {
                boolean row = next(2) == 0;
                int value = someNumber();
                Due.same("input(" + row + ", " + value + ")", x.input(row, value), m.input(row, value));
                return 1;
            }
            case 8: {
                int out = someCell(cells);
                int row = someCell(cells);
                int column = someCell(cells);
                Due.same("table(" + out + ", " + row + ", " + column + ")", x.table(out, row, column), m.table(out, row, column));
                return 1;
            }
            case 9: {
                int i = next(6) - 1;
                int j = next(6) - 1;
                Due.same("entry(" + i + ", " + j + ")", x.entry(i, j), m.entry(i, j));
                return 1;
            }
            case 10: {
                int cell = someCell(cells);
                Due.same("dependents(" + cell + ")", x.dependents(cell), m.dependents(cell));
                return 1;
            }
            default: {
                int cell = someCell(cells);
                Due.same("value(" + cell + ")", x.value(cell), Model.bad(cell) ? 0 : m.values()[cell]);
                return 1;
            }
        }
    }

    private static void formula(WhatIfTables x, Model m, int cell, int[] seen) {
        int want = m.formula(cell);
        seen[-want]++;
        Due.same("formula(" + cell + ")", x.formula(cell), want);
    }

    // Types tokens that are sound if none were typed before, and makes them a formula.
    private static int soundFormula(WhatIfTables x, Model m, int cells, int room, int[] seen) {
        if (room < 9) {
            x.clearTokens();
            m.typed.clear();
            return 1;
        }
        int height = 0;
        int made = 0;
        while (made < 8 && (height != 1 || next(3) != 0)) {
            int kind = height < 2 || next(2) == 0 && made < 4 ? next(2) : height == 2 ? 2 + next(5) : 7;
            int argument = kind == 1 ? someCell(cells) : someNumber();
            int want = m.token(kind, argument);
            Due.same("token(" + kind + ", " + argument + ")", x.token(kind, argument), want);
            height += kind < 2 ? 1 : kind == 7 ? -2 : -1;
            made++;
        }
        formula(x, m, someCell(cells), seen);
        return made + 1;
    }

    private static void sameState(WhatIfTables x, Model m) {
        int[] values = m.values();
        for (int c = 0; c < 16; c++) {
            Due.same("value(" + c + ") at the end", x.value(c), values[c]);
            Due.same("isFormula(" + c + ") at the end", x.isFormula(c), m.formulas.containsKey(c));
            Due.same("dependents(" + c + ") at the end", x.dependents(c), m.dependents(c));
        }
    }
}
