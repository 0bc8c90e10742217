import java.util.ArrayList;
import java.util.HashSet;
import java.util.List;
import java.util.Set;

// Long mixed runs against a second, independent reading of the document: sets of pairs, lists of answers.
public final class ModelTest {
    private static final int RUNS = 150;
    // The document leaves free what an object answers after its 512th call.
    private static final int CALLS = 512;

    private final List<Set<List<Integer>>> relations = new ArrayList<>();
    private final List<int[]> atoms = new ArrayList<>();
    private final LeapJoin join = new LeapJoin();
    private long state;

    private ModelTest(long seed) {
        state = seed;
        for (int r = 0; r < 3; r++) {
            relations.add(new HashSet<>());
        }
    }

    private int below(int bound) {
        state = state * 6364136223846793005L + 1442695040888963407L;
        return (int) ((state >>> 33) % bound);
    }

    // Mostly 0 .. bound - 1, now and then just outside or far outside.
    private int near(int bound) {
        switch (below(24)) {
            case 0: return -1 - below(3);
            case 1: return bound + below(3);
            case 2: return below(2) == 0 ? Integer.MIN_VALUE : Integer.MAX_VALUE;
            default: return below(bound);
        }
    }

    private static boolean in(int a, int bound) {
        return 0 <= a && a < bound;
    }

    private boolean satisfies(int[] things) {
        boolean[] used = new boolean[4];
        for (int[] a : atoms) {
            used[a[1]] = true;
            used[a[2]] = true;
            if (!relations.get(a[0]).contains(List.of(things[a[1]], things[a[2]]))) {
                return false;
            }
        }
        for (int v = 0; v < 4; v++) {
            if (!used[v] && things[v] != 0) {
                return false;
            }
        }
        return true;
    }

    private List<int[]> answers() {
        List<int[]> found = new ArrayList<>();
        for (int a = 0; a < 8; a++) {
            for (int b = 0; b < 8; b++) {
                for (int c = 0; c < 8; c++) {
                    for (int d = 0; d < 8; d++) {
                        int[] things = {a, b, c, d};
                        if (satisfies(things)) {
                            found.add(things);
                        }
                    }
                }
            }
        }
        return found;
    }

    private static int number(int[] t) {
        return t[3] + 8 * t[2] + 64 * t[1] + 512 * t[0];
    }

    private int pair(int r, int x, int y, boolean on) {
        if (!in(r, 3) || !in(x, 8) || !in(y, 8)) {
            return 0;
        }
        if (on) {
            relations.get(r).add(List.of(x, y));
        } else {
            relations.get(r).remove(List.of(x, y));
        }
        return 1;
    }

    private int atom(int r, int v, int w) {
        if (!in(r, 3) || !in(v, 4) || !in(w, 4)) {
            return -1;
        }
        if (atoms.size() == 5) {
            return -2;
        }
        atoms.add(new int[] {r, v, w});
        return atoms.size();
    }

    private int drop() {
        if (atoms.isEmpty()) {
            return -1;
        }
        atoms.remove(atoms.size() - 1);
        return atoms.size();
    }

    private int answer(int k) {
        List<int[]> all = answers();
        return in(k, all.size()) ? number(all.get(k)) : -1;
    }

    private int seek(int n) {
        for (int[] t : answers()) {
            if (number(t) >= n) {
                return number(t);
            }
        }
        return -1;
    }

    private int holds(int n) {
        for (int[] t : answers()) {
            if (number(t) == n) {
                return 1;
            }
        }
        return 0;
    }

    private int values(int v) {
        int things = 0;
        for (int[] t : answers()) {
            things |= in(v, 4) ? 1 << t[v] : 0;
        }
        return things;
    }

    private int countWith(int v, int x) {
        int found = 0;
        for (int[] t : answers()) {
            found += in(v, 4) && t[v] == x ? 1 : 0;
        }
        return found;
    }

    private int pairs(int v, int w) {
        Set<List<Integer>> seen = new HashSet<>();
        for (int[] t : answers()) {
            if (in(v, 4) && in(w, 4)) {
                seen.add(List.of(t[v], t[w]));
            }
        }
        return seen.size();
    }

    private int loss(int r, int x, int y) {
        if (!in(r, 3) || !in(x, 8) || !in(y, 8)) {
            return -1;
        }
        int before = answers().size();
        boolean was = relations.get(r).remove(List.of(x, y));
        int after = answers().size();
        if (was) {
            relations.get(r).add(List.of(x, y));
        }
        return before - after;
    }

    private int partners(int r, int x, int way) {
        int things = 0;
        for (int y = 0; y < 8; y++) {
            List<Integer> p = way == 0 ? List.of(x, y) : List.of(y, x);
            things |= in(r, 3) && in(way, 2) && relations.get(r).contains(p) ? 1 << y : 0;
        }
        return things;
    }

    private static boolean same(String call, int got, int want) {
        if (got != want) {
            System.out.println(call + " answered " + got + ", due is " + want);
        }
        return got == want;
    }

    private boolean change(int fill) {
        int r = near(3);
        if (below(4) > 0) {
            int x = near(8);
            int y = near(8);
            boolean on = below(100) < fill;
            return same("pair(" + r + ", " + x + ", " + y + ", " + on + ")", join.pair(r, x, y, on) ? 1 : 0, pair(r, x, y, on));
        }
        if (below(5) < 2) {
            return same("drop()", join.drop(), drop());
        }
        int v = near(4);
        int w = near(4);
        return same("atom(" + r + ", " + v + ", " + w + ")", join.atom(r, v, w), atom(r, v, w));
    }

    private boolean ask() {
        int r = near(3);
        int v = near(4);
        int w = near(4);
        int x = near(8);
        int y = near(8);
        int way = near(2);
        int n = near(4096);
        int k = near(answers().size() + 1);
        switch (below(10)) {
            case 0: return same("size(" + r + ")", join.size(r), in(r, 3) ? relations.get(r).size() : -1);
            case 1: return same("count()", join.count(), answers().size());
            case 2: return same("answer(" + k + ")", join.answer(k), answer(k));
            case 3: return same("seek(" + n + ")", join.seek(n), seek(n));
            case 4: return same("values(" + v + ")", join.values(v), values(v));
            case 5: return same("countWith(" + v + ", " + x + ")", join.countWith(v, x), countWith(v, x));
            case 6: return askHolds(n);
            case 7: return same("pairs(" + v + ", " + w + ")", join.pairs(v, w), pairs(v, w));
            case 8: return same("loss(" + r + ", " + x + ", " + y + ")", join.loss(r, x, y), loss(r, x, y));
            default: return same("partners(" + r + ", " + x + ", " + way + ")", join.partners(r, x, way), partners(r, x, way));
        }
    }

    // A number drawn blindly is seldom an answer, so half of the questions start from one.
    private boolean askHolds(int n) {
        List<int[]> all = answers();
        int m = n;
        if (!all.isEmpty() && below(2) == 0) {
            m = number(all.get(below(all.size()))) + 4096 * (below(3) - 1);
        }
        return same("holds(" + m + ")", join.holds(m) ? 1 : 0, holds(m));
    }

    private boolean run() {
        int fill = 50 + below(50);
        boolean right = true;
        for (int call = 0; call < CALLS && right; call++) {
            right = call < 100 || below(3) == 0 ? change(fill) : ask();
        }
        return right;
    }

    public static void main(String[] args) {
        int wrong = 0;
        for (int i = 1; i <= RUNS; i++) {
            if (!new ModelTest(i).run()) {
                System.out.println("  in run " + i);
                wrong++;
            }
        }
        System.out.println(wrong == 0 ? "all answers are as due" : wrong + " runs are not as due");
        if (wrong != 0) {
            System.exit(1);
        }
    }
}
