// One group of cases for each promise of the document: ordinary inputs, the named edges, wrong inputs.
public final class PromisesTest {
    private static final int MIN = Integer.MIN_VALUE;
    private static final int MAX = Integer.MAX_VALUE;
    private static final int[] BAD_RELATIONS = {MIN, -1, 3, 4, 64, MAX};
    private static final int[] BAD_THINGS = {MIN, -8, -1, 8, 9, 64, MAX};
    private static final int[] BAD_VARIABLES = {MIN, -1, 4, 5, 32, MAX};

    private static int wrong = 0;

    private static void due(String what, long got, long want) {
        if (got != want) {
            wrong++;
            System.out.println(what + " answered " + got + ", due is " + want);
        }
    }

    private static void due(String what, boolean got, boolean want) {
        due(what, got ? 1 : 0, want ? 1 : 0);
    }

    private static int number(int a, int b, int c, int d) {
        return 512 * a + 64 * b + 8 * c + d;
    }

    private static LeapJoin withPairs(int r, int... things) {
        LeapJoin j = new LeapJoin();
        add(j, r, things);
        return j;
    }

    private static void add(LeapJoin j, int r, int... things) {
        for (int i = 0; i < things.length; i += 2) {
            due("pair", j.pair(r, things[i], things[i + 1], true), true);
        }
    }

    private static LeapJoin withAllPairs() {
        LeapJoin j = new LeapJoin();
        for (int c = 0; c < 64; c++) {
            j.pair(0, c / 8, c % 8, true);
        }
        return j;
    }

    // Relation 0 is 1-2, 1-3, 2-3, 3-3; the query is 0(v1, v2): variables 0 and 3 stay unbound.
    private static LeapJoin middle() {
        LeapJoin j = withPairs(0, 1, 2, 1, 3, 2, 3, 3, 3);
        j.atom(0, 1, 2);
        return j;
    }

    private static void promise1NewObject() {
        LeapJoin j = new LeapJoin();
        for (int r = 0; r < 3; r++) {
            due("1: size of a new relation", j.size(r), 0);
            for (int x = 0; x < 8; x++) {
                due("1: partners, way 0", j.partners(r, x, 0), 0);
                due("1: partners, way 1", j.partners(r, x, 1), 0);
            }
        }
        due("1: count without atoms", j.count(), 1);
        due("1: answer(0) without atoms", j.answer(0), 0);
        due("1: no atom to drop", j.drop(), LeapJoin.NONE);
        due("1: first atom", j.atom(0, 0, 0), 1);
        LeapJoin other = new LeapJoin();
        due("1: objects are apart", other.drop(), LeapJoin.NONE);
        j.pair(1, 2, 3, true);
        due("1: relations are apart", other.size(1), 0);
    }

    private static void promise2Pair() {
        LeapJoin j = new LeapJoin();
        due("2: put", j.pair(0, 0, 0, true), true);
        due("2: put the last one", j.pair(2, 7, 7, true), true);
        due("2: put again", j.pair(2, 7, 7, true), true);
        due("2: size 0", j.size(0), 1);
        due("2: size 1", j.size(1), 0);
        due("2: size 2 after putting twice", j.size(2), 1);
        due("2: take out what is not in", j.pair(2, 7, 6, false), true);
        due("2: nothing went", j.size(2), 1);
        due("2: take out", j.pair(2, 7, 7, false), true);
        due("2: take out again", j.pair(2, 7, 7, false), true);
        due("2: size 2 after taking out", j.size(2), 0);
        due("2: put (3, 5)", j.pair(1, 3, 5, true), true);
        due("2: direction", j.partners(1, 3, 0), 1 << 5);
        due("2: not the other way", j.partners(1, 5, 0), 0);
    }

    private static void promise2PairRefuses() {
        for (int on = 0; on < 2; on++) {
            LeapJoin j = withPairs(1, 0, 0, 7, 7, 1, 0, 0, 7, 0, 1);
            add(j, 0, 0, 0);
            add(j, 2, 7, 7);
            for (int r : BAD_RELATIONS) {
                due("2: relation " + r, j.pair(r, 0, 0, on == 1), false);
            }
            for (int t : BAD_THINGS) {
                due("2: first thing " + t, j.pair(1, t, 0, on == 1), false);
                due("2: second thing " + t, j.pair(1, 0, t, on == 1), false);
            }
            due("2: unchanged 0", j.size(0), 1);
            due("2: unchanged 1", j.size(1), 5);
            due("2: unchanged 2", j.size(2), 1);
        }
    }

    private static void promise3Size() {
        LeapJoin j = withAllPairs();
        due("3: every pair", j.size(0), 64);
        due("3: another relation", j.size(1), 0);
        for (int i = 0; i < 8; i++) {
            j.pair(0, i, i, false);
            due("3: one less each time", j.size(0), 63 - i);
        }
        for (int r : BAD_RELATIONS) {
            due("3: size(" + r + ")", j.size(r), LeapJoin.NONE);
        }
    }

    private static void promise4Atom() {
        LeapJoin j = middle();
        due("4: second", j.atom(2, 3, 3), 2);
        due("4: third", j.atom(1, 3, 0), 3);
        due("4: fourth", j.atom(0, 0, 3), 4);
        for (int r : BAD_RELATIONS) {
            due("4: relation " + r, j.atom(r, 0, 0), LeapJoin.NONE);
        }
        for (int v : BAD_VARIABLES) {
            due("4: first variable " + v, j.atom(0, v, 0), LeapJoin.NONE);
            due("4: second variable " + v, j.atom(0, 0, v), LeapJoin.NONE);
        }
        due("4: fifth, after refusals", j.atom(1, 1, 2), 5);
        due("4: sixth", j.atom(1, 1, 2), LeapJoin.FULL);
        due("4: still full", j.atom(0, 0, 0), LeapJoin.FULL);
        due("4: five were kept", j.drop(), 4);
        due("4: room again", j.atom(0, 0, 0), 5);
    }

    private static void promise4AtomDirection() {
        LeapJoin j = withPairs(0, 1, 2);
        j.atom(0, 0, 3);
        due("4: first variable has the first thing", j.answer(0), number(1, 0, 0, 2));
        j.drop();
        j.atom(0, 3, 0);
        due("4: the other way", j.answer(0), number(2, 0, 0, 1));
        j.drop();
        j.atom(0, 2, 2);
        due("4: the same variable twice", j.count(), 0);
        j.pair(0, 5, 5, true);
        due("4: a pair of equal things", j.answer(0), number(0, 0, 5, 0));
    }

    private static void promise5Drop() {
        LeapJoin j = withPairs(0, 1, 2);
        due("5: none", j.drop(), LeapJoin.NONE);
        j.atom(0, 0, 1);
        j.atom(1, 2, 3);
        due("5: empty relation in the query", j.count(), 0);
        due("5: the last one goes", j.drop(), 1);
        due("5: the first one stays", j.answer(0), number(1, 2, 0, 0));
        due("5: the only one goes", j.drop(), 0);
        due("5: the query is empty again", j.answer(0), 0);
        due("5: none is left", j.drop(), LeapJoin.NONE);
        due("5: still none", j.drop(), LeapJoin.NONE);
        due("5: a new first", j.atom(0, 0, 1), 1);
        due("5: relations stay", j.size(0), 1);
    }

    private static void promise6Count() {
        due("6: one atom", middle().count(), 4);
        LeapJoin all = withAllPairs();
        due("6: no atom", all.count(), 1);
        all.atom(0, 1, 1);
        due("6: one variable", all.count(), 8);
        all.atom(0, 0, 1);
        due("6: two variables", all.count(), 64);
        all.atom(0, 2, 3);
        due("6: every number", all.count(), 4096);
        all.atom(1, 0, 1);
        due("6: an empty relation", all.count(), 0);
        LeapJoin path = withPairs(0, 1, 2, 1, 3, 2, 3, 3, 3);
        path.atom(0, 0, 1);
        path.atom(0, 1, 2);
        due("6: paths of two", path.count(), 4);
        path.atom(0, 0, 2);
        due("6: triangles", path.count(), 4);
        path.pair(0, 1, 3, false);
        due("6: follows the relations", path.count(), 2);
    }

    private static void promise7Answer() {
        LeapJoin j = middle();
        int[] all = {number(0, 1, 2, 0), number(0, 1, 3, 0), number(0, 2, 3, 0), number(0, 3, 3, 0)};
        for (int k = 0; k < all.length; k++) {
            due("7: answer(" + k + ")", j.answer(k), all[k]);
        }
        for (int k : new int[] {MIN, -1, 4, 5, 4096, MAX}) {
            due("7: answer(" + k + ")", j.answer(k), LeapJoin.NONE);
        }
        LeapJoin whole = withAllPairs();
        whole.atom(0, 0, 1);
        whole.atom(0, 2, 3);
        due("7: the first of all", whole.answer(0), 0);
        due("7: the last of all", whole.answer(4095), 4095);
        due("7: beyond the last", whole.answer(4096), LeapJoin.NONE);
    }

    private static void promise8Seek() {
        LeapJoin j = middle();
        int first = number(0, 1, 2, 0);
        int last = number(0, 3, 3, 0);
        due("8: from the least int", j.seek(MIN), first);
        due("8: from -1", j.seek(-1), first);
        due("8: from 0", j.seek(0), first);
        due("8: an answer itself", j.seek(first), first);
        due("8: just behind one", j.seek(first + 1), number(0, 1, 3, 0));
        due("8: the last one", j.seek(last), last);
        due("8: behind the last", j.seek(last + 1), LeapJoin.NONE);
        due("8: 4096", j.seek(4096), LeapJoin.NONE);
        due("8: a number that wraps", j.seek(4096 + first), LeapJoin.NONE);
        due("8: the greatest int", j.seek(MAX), LeapJoin.NONE);
        LeapJoin top = withPairs(0, 7, 7);
        top.atom(0, 0, 1);
        top.atom(0, 2, 3);
        due("8: 4095 is reached", top.seek(4095), 4095);
        top.atom(1, 0, 0);
        due("8: no answer at all", top.seek(0), LeapJoin.NONE);
    }

    private static void promise9Values() {
        LeapJoin j = middle();
        due("9: unbound 0", j.values(0), 1);
        due("9: bound 1", j.values(1), 1 << 1 | 1 << 2 | 1 << 3);
        due("9: bound 2", j.values(2), 1 << 2 | 1 << 3);
        due("9: unbound 3", j.values(3), 1);
        for (int v : BAD_VARIABLES) {
            due("9: values(" + v + ")", j.values(v), 0);
        }
        j.atom(1, 1, 2);
        due("9: no answers, bound", j.values(1), 0);
        due("9: no answers, unbound", j.values(0), 0);
        LeapJoin all = withAllPairs();
        all.atom(0, 3, 0);
        due("9: every thing, 0", all.values(0), 255);
        due("9: every thing, 3", all.values(3), 255);
        due("9: no atoms, the answer 0", new LeapJoin().values(0), 1);
    }

    private static void promise10CountWith() {
        LeapJoin j = middle();
        due("10: v1 = 1", j.countWith(1, 1), 2);
        due("10: v1 = 2", j.countWith(1, 2), 1);
        due("10: v1 = 0", j.countWith(1, 0), 0);
        due("10: v2 = 3", j.countWith(2, 3), 3);
        due("10: unbound with 0", j.countWith(3, 0), 4);
        due("10: unbound with 1", j.countWith(0, 1), 0);
        for (int v : BAD_VARIABLES) {
            due("10: variable " + v, j.countWith(v, 0), 0);
        }
        for (int x : BAD_THINGS) {
            due("10: thing " + x, j.countWith(1, x), 0);
            due("10: unbound, thing " + x, j.countWith(0, x), 0);
        }
        LeapJoin all = withAllPairs();
        all.atom(0, 0, 1);
        all.atom(0, 2, 3);
        due("10: an eighth of all", all.countWith(3, 7), 512);
        due("10: no atoms, the answer 0", new LeapJoin().countWith(2, 0), 1);
    }

    private static void promise11Holds() {
        LeapJoin j = middle();
        int first = number(0, 1, 2, 0);
        due("11: an answer", j.holds(first), true);
        due("11: not in the relation", j.holds(number(0, 2, 2, 0)), false);
        due("11: the other way round", j.holds(number(0, 2, 1, 0)), false);
        due("11: unbound 0 is not 0", j.holds(number(1, 1, 2, 0)), false);
        due("11: unbound 3 is not 0", j.holds(number(0, 1, 2, 7)), false);
        for (int n : new int[] {MIN, MIN + first, first - 4096, -1, 4096, 4096 + first, 8192 + first, MAX}) {
            due("11: holds(" + n + ")", j.holds(n), false);
        }
        LeapJoin none = new LeapJoin();
        due("11: no atoms, 0", none.holds(0), true);
        due("11: no atoms, 1", none.holds(1), false);
        due("11: no atoms, 4096", none.holds(4096), false);
        LeapJoin top = withPairs(0, 7, 7);
        top.atom(0, 0, 1);
        top.atom(0, 2, 3);
        due("11: 4095", top.holds(4095), true);
        due("11: -1 is not 4095", top.holds(-1), false);
    }

    private static void promise12Pairs() {
        LeapJoin j = middle();
        due("12: (1, 2)", j.pairs(1, 2), 4);
        due("12: (2, 1)", j.pairs(2, 1), 4);
        due("12: (1, 1)", j.pairs(1, 1), 3);
        due("12: (2, 2)", j.pairs(2, 2), 2);
        due("12: one unbound", j.pairs(0, 2), 2);
        due("12: both unbound", j.pairs(0, 3), 1);
        due("12: the same unbound", j.pairs(3, 3), 1);
        for (int v : BAD_VARIABLES) {
            due("12: first " + v, j.pairs(v, 0), 0);
            due("12: second " + v, j.pairs(0, v), 0);
            due("12: both " + v, j.pairs(v, v), 0);
        }
        j.atom(1, 3, 3);
        due("12: no answers", j.pairs(1, 2), 0);
        LeapJoin all = withAllPairs();
        all.atom(0, 0, 1);
        all.atom(0, 2, 3);
        due("12: every pair", all.pairs(3, 1), 64);
        due("12: every thing", all.pairs(3, 3), 8);
        due("12: no atoms, the answer 0", new LeapJoin().pairs(0, 1), 1);
    }

    private static void promise13Loss() {
        LeapJoin j = withPairs(0, 1, 2, 1, 3, 2, 3, 3, 3);
        add(j, 1, 3, 3);
        due("13: no atoms", j.loss(0, 1, 2), 0);
        j.atom(0, 0, 1);
        j.atom(0, 1, 2);
        // Answers: 1-2-3, 1-3-3, 2-3-3, 3-3-3.
        due("13: in one answer", j.loss(0, 1, 2), 1);
        due("13: by either atom", j.loss(0, 2, 3), 2);
        due("13: twice in one answer counts once", j.loss(0, 3, 3), 3);
        due("13: in no atom's relation", j.loss(1, 3, 3), 0);
        due("13: not in the relation", j.loss(0, 0, 0), 0);
        due("13: the other way round", j.loss(0, 2, 1), 0);
        due("13: the pair is still there", j.size(0), 4);
        due("13: the answers are still there", j.count(), 4);
        for (int r : BAD_RELATIONS) {
            due("13: relation " + r, j.loss(r, 0, 0), LeapJoin.NONE);
        }
        for (int x : BAD_THINGS) {
            due("13: first " + x, j.loss(0, x, 0), LeapJoin.NONE);
            due("13: second " + x, j.loss(0, 0, x), LeapJoin.NONE);
        }
        j.atom(2, 0, 0);
        due("13: no answers to lose", j.loss(0, 3, 3), 0);
        LeapJoin zero = withPairs(0, 0, 0, 1, 1);
        zero.atom(0, 0, 1);
        zero.atom(0, 2, 3);
        due("13: the answer 0 is lost too", zero.loss(0, 0, 0), 3);
        zero.drop();
        zero.drop();
        due("13: dropped atoms lose nothing", zero.loss(0, 0, 0), 0);
    }

    private static void promise14Partners() {
        LeapJoin j = withPairs(2, 0, 0, 0, 7, 3, 0, 3, 4, 7, 7);
        due("14: from 0", j.partners(2, 0, 0), 1 | 1 << 7);
        due("14: to 0", j.partners(2, 0, 1), 1 | 1 << 3);
        due("14: from 3", j.partners(2, 3, 0), 1 | 1 << 4);
        due("14: to 3", j.partners(2, 3, 1), 0);
        due("14: to 7", j.partners(2, 7, 1), 1 | 1 << 7);
        due("14: another relation", j.partners(1, 0, 0), 0);
        due("14: every thing", withAllPairs().partners(0, 5, 0), 255);
        for (int r : BAD_RELATIONS) {
            due("14: relation " + r, j.partners(r, 0, 0), 0);
        }
        for (int x : BAD_THINGS) {
            due("14: from " + x, j.partners(2, x, 0), 0);
            due("14: to " + x, j.partners(2, x, 1), 0);
        }
        for (int way : new int[] {MIN, -1, 2, 3, MAX}) {
            due("14: way " + way, j.partners(2, 0, way), 0);
        }
    }

    private static void promise15Order() {
        LeapJoin j = new LeapJoin();
        for (int i = 1; i <= 5; i++) {
            due("15: atom " + i, j.atom(0, 0, 1), i);
        }
        for (int r : BAD_RELATIONS) {
            due("15: full, relation " + r, j.atom(r, 0, 0), LeapJoin.NONE);
        }
        for (int v : BAD_VARIABLES) {
            due("15: full, first " + v, j.atom(0, v, 0), LeapJoin.NONE);
            due("15: full, second " + v, j.atom(0, 0, v), LeapJoin.NONE);
        }
        due("15: full", j.atom(2, 3, 3), LeapJoin.FULL);
        due("15: five are left as they were", j.drop(), 4);
    }

    public static void main(String[] args) {
        promise1NewObject();
        promise2Pair();
        promise2PairRefuses();
        promise3Size();
        promise4Atom();
        promise4AtomDirection();
        promise5Drop();
        promise6Count();
        promise7Answer();
        promise8Seek();
        promise9Values();
        promise10CountWith();
        promise11Holds();
        promise12Pairs();
        promise13Loss();
        promise14Partners();
        promise15Order();
        System.out.println(wrong == 0 ? "all answers are as due" : wrong + " answers are not as due");
        if (wrong != 0) {
            System.exit(1);
        }
    }
}
