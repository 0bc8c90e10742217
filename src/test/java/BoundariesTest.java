import java.util.HashSet;
import java.util.Set;

// Each sentence of the document that names a boundary case has a test of its own here, under the promise's number.
public final class BoundariesTest {
    private static final int NONE = LeapJoin.NONE;
    private static final int FULL = LeapJoin.FULL;
    private static final int MIN = Integer.MIN_VALUE;
    private static final int MAX = Integer.MAX_VALUE;
    private static final int[] TOO_SMALL = {-1, -2, -3, -4, -8, -32, -64, -256, -4096, -65536, MIN, MIN + 1, MIN + 8};

    private static final Set<String> names = new HashSet<>();
    private static String name = "";
    private static int failed = 0;
    private static boolean right = true;

    private static void test(String sentence, Runnable body) {
        name = sentence;
        right = names.add(sentence);
        if (!right) {
            System.out.println(name + ": the name is taken twice");
        }
        try {
            body.run();
        } catch (RuntimeException e) {
            right = false;
            System.out.println(name + ": threw " + e);
        }
        failed += right ? 0 : 1;
    }

    private static void due(String call, int got, int want) {
        if (got != want) {
            right = false;
            System.out.println(name + ": " + call + " answered " + got + ", due is " + want);
        }
    }

    private static void due(String call, boolean got, boolean want) {
        if (got != want) {
            right = false;
            System.out.println(name + ": " + call + " answered " + got + ", due is " + want);
        }
    }

    private static void unchanged(String before, LeapJoin j) {
        String now = look(j);
        if (!now.equals(before)) {
            right = false;
            System.out.println(name + ": changed from " + before + " to " + now);
        }
    }

    // Among them those that a shift, a mask or a narrower type would take back into the bounds.
    private static int[] tooLarge(int bound) {
        return new int[] {bound, bound + 1, 2 * bound, 32, 33, 64, 65, 256, 257, 4096, 4097, 65536, 65537, MAX - 1, MAX};
    }

    private static int number(int a, int b, int c, int d) {
        return 512 * a + 64 * b + 8 * c + d;
    }

    private static LeapJoin pairsIn(int r, int... things) {
        LeapJoin j = new LeapJoin();
        for (int i = 0; i < things.length; i += 2) {
            j.pair(r, things[i], things[i + 1], true);
        }
        return j;
    }

    private static void fill(LeapJoin j, int r) {
        for (int c = 0; c < 64; c++) {
            j.pair(r, c / 8, c % 8, true);
        }
    }

    private static LeapJoin full(int r) {
        LeapJoin j = new LeapJoin();
        fill(j, r);
        return j;
    }

    // Every one of the 4096 numbers is an answer.
    private static LeapJoin everyAnswer() {
        LeapJoin j = full(0);
        j.atom(0, 0, 1);
        j.atom(0, 2, 3);
        return j;
    }

    // The one answer is 4095.
    private static LeapJoin lastAnswer() {
        LeapJoin j = pairsIn(0, 7, 7);
        j.atom(0, 0, 1);
        j.atom(0, 2, 3);
        return j;
    }

    // All relations have pairs, but an atom asks for a pair of equal things, which relation 1 has not.
    private static LeapJoin noAnswer() {
        LeapJoin j = full(0);
        j.pair(1, 0, 7, true);
        j.atom(0, 0, 1);
        j.atom(1, 2, 2);
        return j;
    }

    // Answers 0-1-2-0, 0-1-3-0, 0-2-3-0, 0-3-3-0: variables 0 and 3 are in no atom.
    private static LeapJoin middle() {
        LeapJoin j = pairsIn(0, 1, 2, 1, 3, 2, 3, 3, 3);
        j.atom(0, 1, 2);
        return j;
    }

    // Some pairs at the corners in each relation, and an atom on each.
    private static LeapJoin corners() {
        LeapJoin j = new LeapJoin();
        for (int r = 0; r < 3; r++) {
            j.pair(r, 0, 0, true);
            j.pair(r, 0, 7, true);
            j.pair(r, 7, 0, true);
            j.pair(r, 7, 7, true);
            j.atom(r, r, r + 1);
        }
        return j;
    }

    // What can be asked without changing anything; how many atoms there are is asked apart, by drop.
    private static String look(LeapJoin j) {
        StringBuilder seen = new StringBuilder();
        for (int r = 0; r < 3; r++) {
            seen.append(" r").append(r).append(":").append(j.size(r));
            for (int x = 0; x < 8; x++) {
                seen.append(",").append(j.partners(r, x, 0));
            }
        }
        seen.append(" answers:").append(j.count()).append(",").append(j.answer(0)).append(",").append(j.answer(1));
        for (int v = 0; v < 4; v++) {
            seen.append(" v").append(v).append(":").append(j.values(v));
        }
        return seen.toString();
    }

    private static void dropAll(LeapJoin j, int atoms) {
        for (int left = atoms - 1; left >= 0; left--) {
            due("drop()", j.drop(), left);
        }
        due("drop() of the last", j.drop(), NONE);
    }

    private static void terms() {
        test("What it is: an object answers up to its 512th call", () -> {
            LeapJoin j = middle();
            for (int call = 6; call < 512; call++) {
                due("count() as call " + call, j.count(), 4);
            }
            due("answer(3) as call 512", j.answer(3), number(0, 3, 3, 0));
        });
        test("What it is: 512 calls may all be changes", () -> {
            LeapJoin j = new LeapJoin();
            for (int call = 1; call <= 511; call++) {
                due("pair as call " + call, j.pair(call % 3, call % 8, call / 8 % 8, call < 500), true);
            }
            due("size(0) as call 512", j.size(0), 64 - 4);
        });
        test("Terms: things are 0 .. 7: each pair of a relation is apart from the others", () -> {
            LeapJoin j = new LeapJoin();
            for (int c = 0; c < 64; c++) {
                due("pair", j.pair(1, c / 8, c % 8, true), true);
                due("size(1)", j.size(1), c + 1);
            }
            due("size(0)", j.size(0), 0);
            due("size(2)", j.size(2), 0);
        });
        test("Terms: an atom's two variables are perhaps the same", () -> {
            for (int v = 0; v < 4; v++) {
                LeapJoin j = pairsIn(0, 1, 2, 2, 1, 5, 5);
                due("atom(0, v, v)", j.atom(0, v, v), 1);
                due("count()", j.count(), 1);
                due("answer(0)", j.answer(0), 5 << 3 * (3 - v));
            }
        });
        test("Terms: the first variable has the pair's first thing, for every two variables", () -> {
            for (int v = 0; v < 4; v++) {
                for (int w = 0; w < 4; w++) {
                    LeapJoin j = pairsIn(0, 1, 2);
                    j.atom(0, v, w);
                    due("answer(0)", j.answer(0), v == w ? NONE : (1 << 3 * (3 - v)) + (2 << 3 * (3 - w)));
                }
            }
        });
        test("Terms: variables in no atom must have the thing 0", () -> {
            for (int v = 0; v < 4; v++) {
                LeapJoin j = full(0);
                j.atom(0, v, v);
                due("count()", j.count(), 8);
                for (int w = 0; w < 4; w++) {
                    due("values(" + w + ")", j.values(w), w == v ? 255 : 1);
                }
            }
        });
        test("Terms: a query without atoms has the one answer 0", () -> {
            LeapJoin j = full(0);
            due("count()", j.count(), 1);
            due("answer(0)", j.answer(0), 0);
        });
        test("Terms: every atom counts, the fifth too", () -> {
            for (int last = 0; last < 5; last++) {
                LeapJoin j = pairsIn(0, 0, 0, 4, 4);
                j.pair(1, 4, 4, true);
                for (int i = 0; i < 5; i++) {
                    j.atom(i == last ? 1 : 0, 3, 3);
                }
                due("count() with the other relation in atom " + last, j.count(), 1);
                due("answer(0)", j.answer(0), 4);
            }
        });
    }

    private static void promise1() {
        test("1: the relations of a new object are empty", () -> {
            LeapJoin j = new LeapJoin();
            for (int r = 0; r < 3; r++) {
                due("size(" + r + ")", j.size(r), 0);
            }
        });
        test("1: a new object has no atoms", () -> due("drop()", new LeapJoin().drop(), NONE));
        test("1: a new object is apart from those made before", () -> {
            LeapJoin before = corners();
            LeapJoin j = new LeapJoin();
            due("size(0)", j.size(0), 0);
            due("atom(0, 0, 0)", j.atom(0, 0, 0), 1);
            due("size(0) of the one before", before.size(0), 4);
            due("drop() of the one before", before.drop(), 2);
        });
    }

    private static void refusePair(boolean on, int[] bad, int place) {
        LeapJoin j = corners();
        String before = look(j);
        for (int b : bad) {
            for (int edge = 0; edge < 8; edge += 7) {
                int r = place == 0 ? b : edge == 0 ? 0 : 2;
                int x = place == 1 ? b : edge;
                int y = place == 2 ? b : edge;
                due("pair(" + r + ", " + x + ", " + y + ", " + on + ")", j.pair(r, x, y, on), false);
            }
        }
        unchanged(before, j);
        dropAll(j, 3);
    }

    private static void promise2() {
        test("2: the least and greatest r, x and y are taken", () -> {
            LeapJoin j = new LeapJoin();
            due("pair(0, 0, 0, true)", j.pair(0, 0, 0, true), true);
            due("pair(2, 7, 7, true)", j.pair(2, 7, 7, true), true);
            due("pair(2, 0, 7, true)", j.pair(2, 0, 7, true), true);
            due("pair(0, 7, 0, true)", j.pair(0, 7, 0, true), true);
            due("size(0)", j.size(0), 2);
            due("size(1)", j.size(1), 0);
            due("size(2)", j.size(2), 2);
        });
        test("2: a pair that is in is put in again: true, and it is in once", () -> {
            LeapJoin j = pairsIn(0, 3, 4);
            due("pair(0, 3, 4, true)", j.pair(0, 3, 4, true), true);
            due("size(0)", j.size(0), 1);
            due("pair(0, 3, 4, false)", j.pair(0, 3, 4, false), true);
            due("size(0) after one taking out", j.size(0), 0);
        });
        test("2: a pair that is not in is taken out: true, and nothing goes", () -> {
            LeapJoin j = pairsIn(0, 3, 4);
            due("pair(0, 4, 3, false)", j.pair(0, 4, 3, false), true);
            due("pair(1, 3, 4, false)", j.pair(1, 3, 4, false), true);
            due("size(0)", j.size(0), 1);
            due("size(1)", j.size(1), 0);
        });
        test("2: a pair is taken out of a full relation, and that one alone", () -> {
            LeapJoin j = full(2);
            due("pair(2, 7, 0, false)", j.pair(2, 7, 0, false), true);
            due("size(2)", j.size(2), 63);
            due("partners(2, 7, 0)", j.partners(2, 7, 0), 254);
            due("partners(2, 0, 1)", j.partners(2, 0, 1), 127);
        });
        String[] parameters = {"r is not 0 .. 2", "x is not 0 .. 7", "y is not 0 .. 7"};
        for (int p = 0; p < 3; p++) {
            int place = p;
            int[] large = tooLarge(p == 0 ? 3 : 8);
            String sentence = "2: false, changing nothing, when " + parameters[p];
            test(sentence + ": too small, put", () -> refusePair(true, TOO_SMALL, place));
            test(sentence + ": too small, taken out", () -> refusePair(false, TOO_SMALL, place));
            test(sentence + ": too large, put", () -> refusePair(true, large, place));
            test(sentence + ": too large, taken out", () -> refusePair(false, large, place));
        }
        test("2: false, changing nothing, when nothing is within its bounds", () -> {
            LeapJoin j = corners();
            String before = look(j);
            due("pair(3, 8, 8, true)", j.pair(3, 8, 8, true), false);
            due("pair(-1, -1, -1, false)", j.pair(-1, -1, -1, false), false);
            unchanged(before, j);
        });
        test("2: a bad thing makes no other pair: (0, 8) is not (1, 0), (1, -1) is not (0, 7)", () -> {
            LeapJoin j = new LeapJoin();
            due("pair(0, 0, 8, true)", j.pair(0, 0, 8, true), false);
            due("pair(0, 1, -1, true)", j.pair(0, 1, -1, true), false);
            due("size(0)", j.size(0), 0);
            fill(j, 0);
            due("pair(0, 0, 8, false)", j.pair(0, 0, 8, false), false);
            due("pair(0, 1, -1, false)", j.pair(0, 1, -1, false), false);
            due("size(0)", j.size(0), 64);
        });
    }

    private static void promise3() {
        test("3: an empty relation has 0 pairs", () -> {
            LeapJoin j = full(1);
            due("size(0)", j.size(0), 0);
            due("size(2)", j.size(2), 0);
        });
        test("3: a full relation has 64 pairs", () -> {
            for (int r = 0; r < 3; r++) {
                due("size(" + r + ")", full(r).size(r), 64);
            }
        });
        test("3: a relation that is emptied again has 0 pairs", () -> {
            LeapJoin j = full(0);
            for (int c = 0; c < 64; c++) {
                j.pair(0, c / 8, c % 8, false);
                due("size(0)", j.size(0), 63 - c);
            }
        });
        test("3: NONE when r is not 0 .. 2: too small", () -> {
            LeapJoin j = corners();
            for (int r : TOO_SMALL) {
                due("size(" + r + ")", j.size(r), NONE);
            }
        });
        test("3: NONE when r is not 0 .. 2: too large", () -> {
            LeapJoin j = corners();
            for (int r : tooLarge(3)) {
                due("size(" + r + ")", j.size(r), NONE);
            }
        });
    }

    private static void refuseAtom(int[] bad, int place) {
        LeapJoin j = corners();
        String before = look(j);
        for (int b : bad) {
            for (int edge = 0; edge < 4; edge += 3) {
                int r = place == 0 ? b : edge == 0 ? 0 : 2;
                int v = place == 1 ? b : edge;
                int w = place == 2 ? b : edge;
                due("atom(" + r + ", " + v + ", " + w + ")", j.atom(r, v, w), NONE);
            }
        }
        unchanged(before, j);
        dropAll(j, 3);
    }

    private static void promise4() {
        test("4: the least and greatest r, v and w are taken", () -> {
            LeapJoin j = new LeapJoin();
            due("atom(0, 0, 0)", j.atom(0, 0, 0), 1);
            due("atom(2, 3, 3)", j.atom(2, 3, 3), 2);
            due("atom(2, 0, 3)", j.atom(2, 0, 3), 3);
            due("atom(0, 3, 0)", j.atom(0, 3, 0), 4);
        });
        test("4: the first atom makes one, the fifth makes five", () -> {
            LeapJoin j = new LeapJoin();
            for (int i = 1; i <= 5; i++) {
                due("atom " + i, j.atom(i % 3, i % 4, 3), i);
            }
        });
        test("4: an atom on a relation that is empty yet is taken", () -> {
            LeapJoin j = new LeapJoin();
            due("atom(1, 0, 1)", j.atom(1, 0, 1), 1);
            due("count()", j.count(), 0);
            j.pair(1, 0, 0, true);
            due("count() with a pair put later", j.count(), 1);
        });
        test("4: an atom that is there already is appended again", () -> {
            LeapJoin j = middle();
            due("atom(0, 1, 2)", j.atom(0, 1, 2), 2);
            due("count()", j.count(), 4);
            dropAll(j, 2);
        });
        String[] parameters = {"r is not 0 .. 2", "v is not 0 .. 3", "w is not 0 .. 3"};
        for (int p = 0; p < 3; p++) {
            int place = p;
            int[] large = tooLarge(p == 0 ? 3 : 4);
            test("4: NONE when " + parameters[p] + ": too small", () -> refuseAtom(TOO_SMALL, place));
            test("4: NONE when " + parameters[p] + ": too large", () -> refuseAtom(large, place));
        }
        test("4: a refused atom is not appended to no atoms", () -> {
            LeapJoin j = new LeapJoin();
            due("atom(3, 0, 0)", j.atom(3, 0, 0), NONE);
            due("atom(0, 4, 0)", j.atom(0, 4, 0), NONE);
            due("atom(0, 0, -1)", j.atom(0, 0, -1), NONE);
            due("count()", j.count(), 1);
            due("drop()", j.drop(), NONE);
        });
        test("4: FULL when there are five, and the sixth changes nothing", () -> {
            LeapJoin j = pairsIn(0, 1, 2, 2, 2, 5, 5);
            j.pair(1, 5, 5, true);
            for (int i = 0; i < 4; i++) {
                j.atom(0, 0, 1);
            }
            j.atom(1, 0, 1);
            String before = look(j);
            due("atom(0, 0, 0)", j.atom(0, 0, 0), FULL);
            due("atom(2, 2, 3)", j.atom(2, 2, 3), FULL);
            unchanged(before, j);
            due("answer(0)", j.answer(0), number(5, 5, 0, 0));
            due("drop()", j.drop(), 4);
            due("count() of the first four", j.count(), 3);
            dropAll(j, 4);
        });
        test("4: not FULL any more when one of five was dropped", () -> {
            LeapJoin j = new LeapJoin();
            for (int i = 0; i < 5; i++) {
                j.atom(0, 0, 0);
            }
            due("atom when full", j.atom(0, 0, 0), FULL);
            j.drop();
            due("atom with room", j.atom(0, 0, 0), 5);
            due("atom when full again", j.atom(0, 0, 0), FULL);
        });
    }

    private static void promise5() {
        test("5: NONE when there is none: a new object", () -> due("drop()", new LeapJoin().drop(), NONE));
        test("5: NONE when there is none: all were dropped", () -> {
            LeapJoin j = corners();
            dropAll(j, 3);
            due("drop() again", j.drop(), NONE);
        });
        test("5: a refused drop changes nothing: the next atom is the first", () -> {
            LeapJoin j = pairsIn(0, 1, 2);
            String before = look(j);
            for (int i = 0; i < 10; i++) {
                due("drop()", j.drop(), NONE);
            }
            unchanged(before, j);
            due("atom(0, 0, 1)", j.atom(0, 0, 1), 1);
            due("answer(0)", j.answer(0), number(1, 2, 0, 0));
        });
        test("5: the only atom is dropped: 0 are left", () -> {
            LeapJoin j = middle();
            due("drop()", j.drop(), 0);
            due("count()", j.count(), 1);
            due("answer(0)", j.answer(0), 0);
        });
        test("5: the fifth atom is dropped: 4 are left", () -> {
            LeapJoin j = new LeapJoin();
            for (int i = 0; i < 5; i++) {
                j.atom(0, 0, 0);
            }
            dropAll(j, 5);
        });
        test("5: the last atom goes, not the first", () -> {
            LeapJoin j = pairsIn(0, 1, 2);
            j.pair(1, 3, 4, true);
            j.atom(0, 0, 1);
            j.atom(1, 2, 3);
            j.drop();
            due("answer(0)", j.answer(0), number(1, 2, 0, 0));
            j.atom(1, 3, 3);
            due("count() with another second atom", j.count(), 0);
        });
    }

    private static void promise6() {
        test("6: no answers are 0", () -> {
            due("count()", noAnswer().count(), 0);
            LeapJoin j = new LeapJoin();
            j.atom(0, 0, 0);
            due("count() with an empty relation", j.count(), 0);
        });
        test("6: no atoms are 1 answer", () -> due("count()", new LeapJoin().count(), 1));
        test("6: at most 4096 answers", () -> due("count()", everyAnswer().count(), 4096));
        test("6: the answer 4095 is counted", () -> due("count()", lastAnswer().count(), 1));
        test("6: the answer 0 is counted", () -> {
            LeapJoin j = pairsIn(0, 0, 0);
            j.atom(0, 0, 1);
            j.atom(0, 2, 3);
            due("count()", j.count(), 1);
        });
    }

    private static void promise7() {
        test("7: the first answer has k = 0", () -> due("answer(0)", middle().answer(0), number(0, 1, 2, 0)));
        test("7: the last answer has k = count - 1", () -> {
            due("answer(3)", middle().answer(3), number(0, 3, 3, 0));
            due("answer(4095)", everyAnswer().answer(4095), 4095);
            due("answer(0)", lastAnswer().answer(0), 4095);
        });
        test("7: NONE when there is none: k is count", () -> {
            due("answer(4)", middle().answer(4), NONE);
            due("answer(4096)", everyAnswer().answer(4096), NONE);
            due("answer(1)", new LeapJoin().answer(1), NONE);
        });
        test("7: NONE when there is none: k is far too large", () -> {
            LeapJoin j = middle();
            for (int k : tooLarge(4)) {
                due("answer(" + k + ")", j.answer(k), NONE);
            }
        });
        test("7: NONE when there is none: k is below 0", () -> {
            LeapJoin j = middle();
            LeapJoin every = everyAnswer();
            for (int k : TOO_SMALL) {
                due("answer(" + k + ")", j.answer(k), NONE);
                due("answer(" + k + ") of 4096", every.answer(k), NONE);
            }
        });
        test("7: NONE when there is none: the query has no answers", () -> {
            LeapJoin j = noAnswer();
            due("answer(0)", j.answer(0), NONE);
            due("answer(-1)", j.answer(-1), NONE);
            due("answer(1)", j.answer(1), NONE);
        });
    }

    private static void promise8() {
        test("8: at least n: n itself when it is an answer", () -> {
            LeapJoin j = middle();
            for (int k = 0; k < 4; k++) {
                int n = j.answer(k);
                due("seek(" + n + ")", j.seek(n), n);
            }
        });
        test("8: the next one when n is one above an answer", () -> {
            LeapJoin j = middle();
            for (int k = 0; k < 3; k++) {
                int n = j.answer(k) + 1;
                due("seek(" + n + ")", j.seek(n), j.answer(k + 1));
            }
        });
        test("8: n is 0: the least answer, 0 itself too", () -> {
            due("seek(0)", middle().seek(0), number(0, 1, 2, 0));
            due("seek(0) without atoms", new LeapJoin().seek(0), 0);
        });
        test("8: n is below 0: the least answer", () -> {
            LeapJoin j = middle();
            LeapJoin every = everyAnswer();
            for (int n : TOO_SMALL) {
                due("seek(" + n + ")", j.seek(n), number(0, 1, 2, 0));
                due("seek(" + n + ") of 4096", every.seek(n), 0);
            }
        });
        test("8: the greatest number, 4095, is found", () -> {
            due("seek(4095)", lastAnswer().seek(4095), 4095);
            due("seek(0)", lastAnswer().seek(0), 4095);
            due("seek(4095) of 4096", everyAnswer().seek(4095), 4095);
        });
        test("8: NONE when there is none: n is above the last answer", () -> {
            due("seek", middle().seek(number(0, 3, 3, 0) + 1), NONE);
            due("seek(1) without atoms", new LeapJoin().seek(1), NONE);
        });
        test("8: NONE when there is none: n is above 4095", () -> {
            LeapJoin every = everyAnswer();
            for (int n : new int[] {4096, 4097, 8191, 8192, 65535, 65536, MAX - 4095, MAX - 1, MAX}) {
                due("seek(" + n + ")", every.seek(n), NONE);
            }
        });
        test("8: NONE when there is none: the query has no answers", () -> {
            LeapJoin j = noAnswer();
            for (int n : new int[] {MIN, -1, 0, 1, 4095, 4096, MAX}) {
                due("seek(" + n + ")", j.seek(n), NONE);
            }
        });
    }

    private static void promise9() {
        test("9: bit 0 for thing 0, bit 7 for thing 7", () -> {
            LeapJoin j = pairsIn(0, 0, 7);
            j.atom(0, 0, 3);
            due("values(0)", j.values(0), 1);
            due("values(3)", j.values(3), 128);
        });
        test("9: all eight bits for all eight things", () -> {
            LeapJoin every = everyAnswer();
            for (int v = 0; v < 4; v++) {
                due("values(" + v + ")", every.values(v), 255);
            }
        });
        test("9: no things when the query has no answers", () -> {
            LeapJoin j = noAnswer();
            for (int v = 0; v < 4; v++) {
                due("values(" + v + ")", j.values(v), 0);
            }
        });
        test("9: only things of an answer: a pair that leads nowhere gives none", () -> {
            LeapJoin j = pairsIn(0, 1, 2, 2, 3);
            j.atom(0, 0, 1);
            j.atom(0, 1, 2);
            due("values(0)", j.values(0), 1 << 1);
            due("values(1)", j.values(1), 1 << 2);
            due("values(2)", j.values(2), 1 << 3);
        });
        test("9: a variable in no atom has the thing 0", () -> {
            LeapJoin j = middle();
            due("values(0)", j.values(0), 1);
            due("values(3)", j.values(3), 1);
            due("values(2) without atoms", new LeapJoin().values(2), 1);
        });
        test("9: 0 when v is not 0 .. 3: too small", () -> {
            LeapJoin every = everyAnswer();
            for (int v : TOO_SMALL) {
                due("values(" + v + ")", every.values(v), 0);
            }
        });
        test("9: 0 when v is not 0 .. 3: too large", () -> {
            LeapJoin every = everyAnswer();
            for (int v : tooLarge(4)) {
                due("values(" + v + ")", every.values(v), 0);
            }
        });
    }

    private static void promise10() {
        test("10: the least and greatest v and x are taken", () -> {
            LeapJoin j = pairsIn(0, 0, 7);
            j.atom(0, 0, 3);
            due("countWith(0, 0)", j.countWith(0, 0), 1);
            due("countWith(3, 7)", j.countWith(3, 7), 1);
            due("countWith(0, 7)", j.countWith(0, 7), 0);
            due("countWith(3, 0)", j.countWith(3, 0), 0);
        });
        test("10: 512 of 4096 answers for each variable and thing", () -> {
            LeapJoin every = everyAnswer();
            for (int v = 0; v < 4; v++) {
                for (int x = 0; x < 8; x++) {
                    due("countWith(" + v + ", " + x + ")", every.countWith(v, x), 512);
                }
            }
        });
        test("10: a variable in no atom has the thing 0 in every answer, and no other", () -> {
            LeapJoin j = middle();
            due("countWith(0, 0)", j.countWith(0, 0), 4);
            due("countWith(3, 0)", j.countWith(3, 0), 4);
            for (int x = 1; x < 8; x++) {
                due("countWith(3, " + x + ")", j.countWith(3, x), 0);
            }
        });
        test("10: 0 when the query has no answers", () -> {
            LeapJoin j = noAnswer();
            for (int v = 0; v < 4; v++) {
                due("countWith(" + v + ", 0)", j.countWith(v, 0), 0);
                due("countWith(" + v + ", 7)", j.countWith(v, 7), 0);
            }
        });
        test("10: 0 when v is not 0 .. 3: too small", () -> {
            LeapJoin every = everyAnswer();
            for (int v : TOO_SMALL) {
                due("countWith(" + v + ", 0)", every.countWith(v, 0), 0);
                due("countWith(" + v + ", 7)", every.countWith(v, 7), 0);
            }
        });
        test("10: 0 when v is not 0 .. 3: too large", () -> {
            LeapJoin every = everyAnswer();
            for (int v : tooLarge(4)) {
                due("countWith(" + v + ", 0)", every.countWith(v, 0), 0);
                due("countWith(" + v + ", 7)", every.countWith(v, 7), 0);
            }
        });
        test("10: no answer has a thing below 0", () -> {
            LeapJoin every = everyAnswer();
            for (int x : TOO_SMALL) {
                due("countWith(1, " + x + ")", every.countWith(1, x), 0);
            }
        });
        test("10: no answer has a thing above 7", () -> {
            LeapJoin every = everyAnswer();
            for (int x : tooLarge(8)) {
                due("countWith(1, " + x + ")", every.countWith(1, x), 0);
            }
        });
    }

    private static void promise11() {
        test("11: the least number, 0, may be an answer or not", () -> {
            due("holds(0) of 4096", everyAnswer().holds(0), true);
            due("holds(0) without atoms", new LeapJoin().holds(0), true);
            due("holds(0) with the one answer 4095", lastAnswer().holds(0), false);
        });
        test("11: the greatest number, 4095, may be an answer or not", () -> {
            due("holds(4095) of 4096", everyAnswer().holds(4095), true);
            due("holds(4095) alone", lastAnswer().holds(4095), true);
            due("holds(4095) without atoms", new LeapJoin().holds(4095), false);
        });
        test("11: a number below 0 is no answer", () -> {
            LeapJoin every = everyAnswer();
            for (int n : TOO_SMALL) {
                due("holds(" + n + ")", every.holds(n), false);
            }
        });
        test("11: a number above 4095 is no answer", () -> {
            LeapJoin every = everyAnswer();
            for (int n : new int[] {4096, 4097, 8191, 8192, 65535, 65536, MAX - 4095, MAX - 1, MAX}) {
                due("holds(" + n + ")", every.holds(n), false);
            }
        });
        test("11: an answer that is moved by 4096 is none", () -> {
            LeapJoin j = middle();
            int n = number(0, 1, 2, 0);
            due("holds(n)", j.holds(n), true);
            due("holds(n + 4096)", j.holds(n + 4096), false);
            due("holds(n - 4096)", j.holds(n - 4096), false);
            due("holds(n + MIN)", j.holds(n + MIN), false);
        });
        test("11: a number with another thing than 0 for a variable in no atom is no answer", () -> {
            LeapJoin j = middle();
            for (int x = 1; x < 8; x++) {
                due("variable 0 has " + x, j.holds(number(x, 1, 2, 0)), false);
                due("variable 3 has " + x, j.holds(number(0, 1, 2, x)), false);
            }
        });
        test("11: no number is an answer when the query has none", () -> {
            LeapJoin j = noAnswer();
            due("holds(0)", j.holds(0), false);
            due("holds(7)", j.holds(7), false);
            due("holds(4095)", j.holds(4095), false);
        });
    }

    private static void promise12() {
        test("12: the least and greatest v and w are taken", () -> {
            LeapJoin j = pairsIn(0, 0, 7, 1, 7);
            j.atom(0, 0, 3);
            due("pairs(0, 3)", j.pairs(0, 3), 2);
            due("pairs(3, 0)", j.pairs(3, 0), 2);
            due("pairs(0, 0)", j.pairs(0, 0), 2);
            due("pairs(3, 3)", j.pairs(3, 3), 1);
        });
        test("12: x = y when v = w", () -> {
            LeapJoin every = everyAnswer();
            for (int v = 0; v < 4; v++) {
                due("pairs(" + v + ", " + v + ")", every.pairs(v, v), 8);
            }
            due("pairs(1, 1)", middle().pairs(1, 1), 3);
        });
        test("12: at most 64 pairs", () -> {
            LeapJoin every = everyAnswer();
            for (int v = 0; v < 4; v++) {
                for (int w = 0; w < 4; w++) {
                    due("pairs(" + v + ", " + w + ")", every.pairs(v, w), v == w ? 8 : 64);
                }
            }
        });
        test("12: a pair of several answers counts once", () -> {
            LeapJoin j = full(0);
            j.pair(1, 2, 3, true);
            j.atom(0, 2, 3);
            j.atom(1, 0, 1);
            due("pairs(0, 1)", j.pairs(0, 1), 1);
            due("pairs(1, 2)", j.pairs(1, 2), 8);
        });
        test("12: (x, y) and (y, x) are two pairs", () -> {
            LeapJoin j = pairsIn(0, 1, 6, 6, 1);
            j.atom(0, 0, 1);
            due("pairs(0, 1)", j.pairs(0, 1), 2);
        });
        test("12: variables in no atom have the one pair (0, 0)", () -> {
            due("pairs(0, 3)", middle().pairs(0, 3), 1);
            due("pairs(3, 3)", middle().pairs(3, 3), 1);
            due("pairs(1, 2) without atoms", new LeapJoin().pairs(1, 2), 1);
        });
        test("12: no pairs when the query has no answers", () -> {
            LeapJoin j = noAnswer();
            for (int v = 0; v < 4; v++) {
                for (int w = 0; w < 4; w++) {
                    due("pairs(" + v + ", " + w + ")", j.pairs(v, w), 0);
                }
            }
        });
        test("12: 0 when v is not 0 .. 3: too small", () -> {
            LeapJoin every = everyAnswer();
            for (int v : TOO_SMALL) {
                due("pairs(" + v + ", 0)", every.pairs(v, 0), 0);
                due("pairs(" + v + ", 3)", every.pairs(v, 3), 0);
            }
        });
        test("12: 0 when v is not 0 .. 3: too large", () -> {
            LeapJoin every = everyAnswer();
            for (int v : tooLarge(4)) {
                due("pairs(" + v + ", 0)", every.pairs(v, 0), 0);
                due("pairs(" + v + ", 3)", every.pairs(v, 3), 0);
            }
        });
        test("12: 0 when w is not 0 .. 3: too small", () -> {
            LeapJoin every = everyAnswer();
            for (int w : TOO_SMALL) {
                due("pairs(0, " + w + ")", every.pairs(0, w), 0);
                due("pairs(3, " + w + ")", every.pairs(3, w), 0);
            }
        });
        test("12: 0 when w is not 0 .. 3: too large", () -> {
            LeapJoin every = everyAnswer();
            for (int w : tooLarge(4)) {
                due("pairs(0, " + w + ")", every.pairs(0, w), 0);
                due("pairs(3, " + w + ")", every.pairs(3, w), 0);
            }
        });
        test("12: 0 when v = w, and neither is 0 .. 3", () -> {
            LeapJoin every = everyAnswer();
            for (int v : TOO_SMALL) {
                due("pairs(" + v + ", " + v + ")", every.pairs(v, v), 0);
            }
            for (int v : tooLarge(4)) {
                due("pairs(" + v + ", " + v + ")", every.pairs(v, v), 0);
            }
        });
    }

    private static void refuseLoss(int[] bad, int place) {
        LeapJoin j = corners();
        for (int b : bad) {
            for (int edge = 0; edge < 8; edge += 7) {
                int r = place == 0 ? b : edge == 0 ? 0 : 2;
                int x = place == 1 ? b : edge;
                int y = place == 2 ? b : edge;
                due("loss(" + r + ", " + x + ", " + y + ")", j.loss(r, x, y), NONE);
            }
        }
    }

    private static void promise13() {
        test("13: the least and greatest r, x and y are taken", () -> {
            // Relations 0, 1, 2 each lead from 0 or 7 to 0 or 7: sixteen answers, four by each pair.
            LeapJoin j = corners();
            for (int r = 0; r < 3; r++) {
                due("loss(" + r + ", 0, 0)", j.loss(r, 0, 0), 4);
                due("loss(" + r + ", 0, 7)", j.loss(r, 0, 7), 4);
                due("loss(" + r + ", 7, 0)", j.loss(r, 7, 0), 4);
                due("loss(" + r + ", 7, 7)", j.loss(r, 7, 7), 4);
            }
        });
        test("13: 0 when it is not in it", () -> {
            LeapJoin j = corners();
            for (int r = 0; r < 3; r++) {
                due("loss(" + r + ", 0, 1)", j.loss(r, 0, 1), 0);
                due("loss(" + r + ", 6, 7)", j.loss(r, 6, 7), 0);
            }
            due("loss(0, 0, 0) of a new object", new LeapJoin().loss(0, 0, 0), 0);
        });
        test("13: 0 when it is not in it, though another relation has it and its answers", () -> {
            LeapJoin j = pairsIn(0, 2, 3);
            j.atom(0, 0, 1);
            due("loss(0, 2, 3)", j.loss(0, 2, 3), 1);
            due("loss(1, 2, 3)", j.loss(1, 2, 3), 0);
            due("loss(2, 2, 3)", j.loss(2, 2, 3), 0);
            due("loss(0, 3, 2)", j.loss(0, 3, 2), 0);
        });
        test("13: 0 when the pair is in a relation of no atom", () -> {
            LeapJoin j = middle();
            j.pair(1, 1, 2, true);
            due("loss(1, 1, 2)", j.loss(1, 1, 2), 0);
        });
        test("13: 0 when there are no atoms", () -> {
            LeapJoin j = full(0);
            due("loss(0, 0, 0)", j.loss(0, 0, 0), 0);
            due("loss(0, 7, 7)", j.loss(0, 7, 7), 0);
        });
        test("13: 0 when there are no answers to lose", () -> {
            LeapJoin j = noAnswer();
            due("loss(0, 0, 0)", j.loss(0, 0, 0), 0);
            due("loss(1, 0, 7)", j.loss(1, 0, 7), 0);
        });
        test("13: all answers when each needs the pair", () -> {
            LeapJoin j = full(0);
            j.pair(1, 7, 7, true);
            j.atom(0, 0, 1);
            j.atom(0, 1, 2);
            j.atom(1, 3, 3);
            due("loss(1, 7, 7)", j.loss(1, 7, 7), 512);
            due("loss(0, 3, 3) by one atom or the other", j.loss(0, 3, 3), 15);
        });
        test("13: an answer that uses the pair in several atoms is lost once", () -> {
            LeapJoin j = pairsIn(0, 3, 3);
            for (int i = 0; i < 5; i++) {
                j.atom(0, i % 4, (i + 1) % 4);
            }
            due("count()", j.count(), 1);
            due("loss(0, 3, 3)", j.loss(0, 3, 3), 1);
        });
        test("13: loss is as count before less count after", () -> {
            LeapJoin j = everyAnswer();
            int lost = j.loss(0, 0, 7);
            due("loss(0, 0, 7)", lost, 127);
            j.pair(0, 0, 7, false);
            due("count()", j.count(), 4096 - lost);
            due("loss(0, 0, 7) when it is out", j.loss(0, 0, 7), 0);
        });
        test("13: loss changes nothing", () -> {
            LeapJoin j = corners();
            String before = look(j);
            j.loss(0, 0, 0);
            j.loss(1, 0, 1);
            j.loss(2, 7, 7);
            j.loss(3, 0, 0);
            j.loss(0, 8, 0);
            unchanged(before, j);
            dropAll(j, 3);
        });
        String[] parameters = {"r is not 0 .. 2", "x is not 0 .. 7", "y is not 0 .. 7"};
        for (int p = 0; p < 3; p++) {
            int place = p;
            int[] large = tooLarge(p == 0 ? 3 : 8);
            test("13: NONE when " + parameters[p] + ": too small", () -> refuseLoss(TOO_SMALL, place));
            test("13: NONE when " + parameters[p] + ": too large", () -> refuseLoss(large, place));
        }
        test("13: NONE, not 0, though no relation has such a pair and there are no atoms", () -> {
            LeapJoin j = new LeapJoin();
            due("loss(3, 0, 0)", j.loss(3, 0, 0), NONE);
            due("loss(0, 8, 0)", j.loss(0, 8, 0), NONE);
            due("loss(0, 0, -1)", j.loss(0, 0, -1), NONE);
            due("loss(-1, 8, 8)", j.loss(-1, 8, 8), NONE);
        });
    }

    private static void promise14() {
        test("14: the least and greatest r, x and way are taken", () -> {
            LeapJoin j = pairsIn(0, 0, 7);
            j.pair(2, 7, 0, true);
            due("partners(0, 0, 0)", j.partners(0, 0, 0), 128);
            due("partners(0, 7, 1)", j.partners(0, 7, 1), 1);
            due("partners(2, 7, 0)", j.partners(2, 7, 0), 1);
            due("partners(2, 0, 1)", j.partners(2, 0, 1), 128);
        });
        test("14: way 0 goes from x, way 1 goes to x", () -> {
            LeapJoin j = pairsIn(1, 2, 5);
            due("partners(1, 2, 0)", j.partners(1, 2, 0), 1 << 5);
            due("partners(1, 2, 1)", j.partners(1, 2, 1), 0);
            due("partners(1, 5, 0)", j.partners(1, 5, 0), 0);
            due("partners(1, 5, 1)", j.partners(1, 5, 1), 1 << 2);
        });
        test("14: a pair of equal things is its own partner both ways", () -> {
            LeapJoin j = pairsIn(0, 4, 4);
            due("partners(0, 4, 0)", j.partners(0, 4, 0), 1 << 4);
            due("partners(0, 4, 1)", j.partners(0, 4, 1), 1 << 4);
        });
        test("14: an empty relation has no partners", () -> {
            LeapJoin j = full(0);
            for (int x = 0; x < 8; x++) {
                due("partners(1, " + x + ", 0)", j.partners(1, x, 0), 0);
                due("partners(2, " + x + ", 1)", j.partners(2, x, 1), 0);
            }
        });
        test("14: a full relation has all eight", () -> {
            LeapJoin j = full(1);
            for (int x = 0; x < 8; x++) {
                due("partners(1, " + x + ", 0)", j.partners(1, x, 0), 255);
                due("partners(1, " + x + ", 1)", j.partners(1, x, 1), 255);
            }
        });
        test("14: the query does not matter", () -> {
            LeapJoin j = noAnswer();
            due("partners(1, 0, 0)", j.partners(1, 0, 0), 128);
            due("partners(0, 0, 0)", j.partners(0, 0, 0), 255);
        });
        test("14: 0 when r is not 0 .. 2: too small", () -> refuseRelation(TOO_SMALL));
        test("14: 0 when r is not 0 .. 2: too large", () -> refuseRelation(tooLarge(3)));
        test("14: 0 when x is not 0 .. 7: too small", () -> refuseThing(TOO_SMALL));
        test("14: 0 when x is not 0 .. 7: too large", () -> refuseThing(tooLarge(8)));
        test("14: 0 when way is not 0 or 1: too small", () -> refuseWay(TOO_SMALL));
        test("14: 0 when way is not 0 or 1: too large", () -> refuseWay(tooLarge(2)));
    }

    private static LeapJoin allFull() {
        LeapJoin j = full(0);
        fill(j, 1);
        fill(j, 2);
        return j;
    }

    private static void refuseRelation(int[] bad) {
        LeapJoin j = allFull();
        for (int r : bad) {
            due("partners(" + r + ", 0, 0)", j.partners(r, 0, 0), 0);
            due("partners(" + r + ", 7, 1)", j.partners(r, 7, 1), 0);
        }
    }

    private static void refuseThing(int[] bad) {
        LeapJoin j = allFull();
        for (int x : bad) {
            due("partners(0, " + x + ", 0)", j.partners(0, x, 0), 0);
            due("partners(2, " + x + ", 1)", j.partners(2, x, 1), 0);
        }
    }

    private static void refuseWay(int[] bad) {
        LeapJoin j = allFull();
        for (int way : bad) {
            due("partners(0, 0, " + way + ")", j.partners(0, 0, way), 0);
            due("partners(2, 7, " + way + ")", j.partners(2, 7, way), 0);
        }
    }

    private static LeapJoin fiveAtoms() {
        LeapJoin j = new LeapJoin();
        for (int i = 0; i < 5; i++) {
            j.atom(0, 0, 1);
        }
        return j;
    }

    private static void refuseBeforeFull(int[] bad, int place) {
        LeapJoin j = fiveAtoms();
        for (int b : bad) {
            int r = place == 0 ? b : 0;
            int v = place == 1 ? b : 3;
            int w = place == 2 ? b : 3;
            due("atom(" + r + ", " + v + ", " + w + ")", j.atom(r, v, w), NONE);
        }
        due("atom(0, 0, 0)", j.atom(0, 0, 0), FULL);
        dropAll(j, 5);
    }

    private static void promise15() {
        String[] parameters = {"r is not 0 .. 2", "v is not 0 .. 3", "w is not 0 .. 3"};
        for (int p = 0; p < 3; p++) {
            int place = p;
            int[] large = tooLarge(p == 0 ? 3 : 4);
            String sentence = "15: with five atoms, NONE goes before FULL when " + parameters[p];
            test(sentence + ": too small", () -> refuseBeforeFull(TOO_SMALL, place));
            test(sentence + ": too large", () -> refuseBeforeFull(large, place));
        }
        test("15: with five atoms, NONE when nothing is within its bounds", () -> {
            due("atom(3, 4, 4)", fiveAtoms().atom(3, 4, 4), NONE);
            due("atom(-1, -1, -1)", fiveAtoms().atom(-1, -1, -1), NONE);
        });
        test("15: with five atoms, FULL for every r, v and w within the bounds", () -> {
            LeapJoin j = fiveAtoms();
            for (int r = 0; r < 3; r++) {
                for (int v = 0; v < 4; v++) {
                    for (int w = 0; w < 4; w++) {
                        due("atom(" + r + ", " + v + ", " + w + ")", j.atom(r, v, w), FULL);
                    }
                }
            }
        });
        test("15: with four atoms there is room", () -> {
            LeapJoin j = fiveAtoms();
            j.drop();
            due("atom(3, 0, 0)", j.atom(3, 0, 0), NONE);
            due("atom(2, 3, 3)", j.atom(2, 3, 3), 5);
            due("atom(2, 3, 3) again", j.atom(2, 3, 3), FULL);
        });
    }

    public static void main(String[] args) {
        terms();
        promise1();
        promise2();
        promise3();
        promise4();
        promise5();
        promise6();
        promise7();
        promise8();
        promise9();
        promise10();
        promise11();
        promise12();
        promise13();
        promise14();
        promise15();
        System.out.println(failed + " of " + names.size() + " boundary tests failed");
        if (failed != 0) {
            System.exit(1);
        }
    }
}
