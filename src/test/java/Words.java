/** The document's words for the tests to use; an interface, as nothing of a class without a package can be imported. */
interface Words {
    int NUMBER = 0;
    int CELL = 1;
    int ADD = 2;
    int SUB = 3;
    int MUL = 4;
    int MIN = 5;
    int MAX = 6;
    int PICK = 7;

    int BAD_CELL = -1;
    int BAD_TOKEN = -2;
    int FULL = -3;
    int UNSOUND = -4;
    int CIRCLE = -5;

    int LEAST = Integer.MIN_VALUE;
    int GREATEST = Integer.MAX_VALUE;

    int CELLS = 16;
    int MOST_CALLS = 512;

    // The first values outside and the ends of int, then such as a mask or a narrower type would take for a cell or a kind.
    int[] NO_CELLS = {-1, 16, LEAST, GREATEST, 17, 32, 256, 65536, -16, -256};
    int[] NO_KINDS = {-1, 8, LEAST, GREATEST, 9, 16, 256, 65536, -8, -256};
    // The least and the greatest int, and what stands beside a cell, a kind and 0.
    int[] ANY_INTS = {LEAST, LEAST + 1, -16, -1, 0, 1, 7, 8, 15, 16, 65536, GREATEST - 1, GREATEST};
}
