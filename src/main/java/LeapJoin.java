/** Joins relations variable by variable; see README.md. */
public final class LeapJoin {
    public static final int NONE = -1;
    public static final int FULL = -2;

    private static final int THINGS = 8;
    private static final int RELATIONS = 3;
    private static final int VARIABLES = 4;
    private static final int MAX_ATOMS = 5;
    private static final int CELLS = 64;
    private static final int NUMBERS = 4096;

    // A pair (x, y) is the cell 8 * x + y; the 64 cells of a relation fit the bits of one long.
    private final long[] cells = new long[RELATIONS];
    private final int[] atomRelation = new int[MAX_ATOMS];
    private final int[] atomFirst = new int[MAX_ATOMS];
    private final int[] atomSecond = new int[MAX_ATOMS];
    private int atomCount;

    public LeapJoin() {
        atomCount = 0;
    }

    public boolean pair(int r, int x, int y, boolean on) {
        if (!isRelation(r) || !isThing(x) || !isThing(y)) {
            return false;
        }
        long bit = 1L << cell(x, y);
        if (on) {
            cells[r] |= bit;
        } else {
            cells[r] &= ~bit;
        }
        return true;
    }

    public int size(int r) {
        if (!isRelation(r)) {
            return NONE;
        }
        return bitsIn(cells[r]);
    }

    public int atom(int r, int v, int w) {
        if (!isRelation(r) || !isVariable(v) || !isVariable(w)) {
            return NONE;
        }
        if (atomCount >= MAX_ATOMS) {
            return FULL;
        }
        atomRelation[atomCount] = r;
        atomFirst[atomCount] = v;
        atomSecond[atomCount] = w;
        atomCount++;
        return atomCount;
    }

    public int drop() {
        if (atomCount == 0) {
            return NONE;
        }
        atomCount--;
        return atomCount;
    }

    public int count() {
        int found = 0;
        for (int n = 0; n < NUMBERS; n++) {
            if (holds(n)) {
                found++;
            }
        }
        return found;
    }

    public int answer(int k) {
        int lesser = 0;
        for (int n = 0; n < NUMBERS; n++) {
            if (holds(n)) {
                if (lesser == k) {
                    return n;
                }
                lesser++;
            }
        }
        return NONE;
    }

    public int seek(int n) {
        int start = n < 0 ? 0 : n;
        for (int m = start; m < NUMBERS; m++) {
            if (holds(m)) {
                return m;
            }
        }
        return NONE;
    }

    public int values(int v) {
        if (!isVariable(v)) {
            return 0;
        }
        int things = 0;
        for (int n = 0; n < NUMBERS; n++) {
            if (holds(n)) {
                things |= 1 << thingOf(n, v);
            }
        }
        return things;
    }

    public int countWith(int v, int x) {
        if (!isVariable(v)) {
            return 0;
        }
        int found = 0;
        for (int n = 0; n < NUMBERS; n++) {
            if (thingOf(n, v) == x && holds(n)) {
                found++;
            }
        }
        return found;
    }

    public boolean holds(int n) {
        if (n < 0 || n >= NUMBERS) {
            return false;
        }
        int bound = 0;
        for (int i = 0; i < atomCount; i++) {
            int c = cellOf(n, atomFirst[i], atomSecond[i]);
            if (!hasBit(cells[atomRelation[i]], c)) {
                return false;
            }
            bound |= 1 << atomFirst[i] | 1 << atomSecond[i];
        }
        return othersAreZero(n, bound);
    }

    public int pairs(int v, int w) {
        if (!isVariable(v) || !isVariable(w)) {
            return 0;
        }
        long seen = 0L;
        for (int n = 0; n < NUMBERS; n++) {
            if (holds(n)) {
                seen |= 1L << cellOf(n, v, w);
            }
        }
        return bitsIn(seen);
    }

    public int loss(int r, int x, int y) {
        if (!isRelation(r) || !isThing(x) || !isThing(y)) {
            return NONE;
        }
        // The answers lost are those that use the pair; none does when it is not in the relation.
        int c = cell(x, y);
        int lost = 0;
        for (int n = 0; n < NUMBERS; n++) {
            if (holds(n) && usesCell(n, r, c)) {
                lost++;
            }
        }
        return lost;
    }

    public int partners(int r, int x, int way) {
        if (!isRelation(r) || !isThing(x) || way < 0 || way > 1) {
            return 0;
        }
        int things = 0;
        for (int y = 0; y < THINGS; y++) {
            int c = way == 0 ? cell(x, y) : cell(y, x);
            if (hasBit(cells[r], c)) {
                things |= 1 << y;
            }
        }
        return things;
    }

    private static boolean isRelation(int r) {
        return r >= 0 && r < RELATIONS;
    }

    private static boolean isThing(int x) {
        return x >= 0 && x < THINGS;
    }

    private static boolean isVariable(int v) {
        return v >= 0 && v < VARIABLES;
    }

    private static int cell(int x, int y) {
        return THINGS * x + y;
    }

    // Variable 0 has the highest of the four octal digits, so that numbers order answers by it first.
    private static int thingOf(int n, int v) {
        return n >> 3 * (VARIABLES - 1 - v) & THINGS - 1;
    }

    private static int cellOf(int n, int v, int w) {
        int x = thingOf(n, v);
        int y = thingOf(n, w);
        return cell(x, y);
    }

    private static boolean hasBit(long set, int i) {
        return (set >>> i & 1L) != 0L;
    }

    private static int bitsIn(long set) {
        int bits = 0;
        for (int i = 0; i < CELLS; i++) {
            if (hasBit(set, i)) {
                bits++;
            }
        }
        return bits;
    }

    private static boolean othersAreZero(int n, int bound) {
        for (int v = 0; v < VARIABLES; v++) {
            if (!hasBit(bound, v) && thingOf(n, v) != 0) {
                return false;
            }
        }
        return true;
    }

    private boolean usesCell(int n, int r, int c) {
        for (int i = 0; i < atomCount; i++) {
            if (atomRelation[i] == r && cellOf(n, atomFirst[i], atomSecond[i]) == c) {
                return true;
            }
        }
        return false;
    }
}
