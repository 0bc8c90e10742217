// README.md's example answers what its comments say.
public final class ReadmeTest {
    private static int wrong = 0;

    private static void due(String call, int got, int want) {
        if (got != want) {
            wrong++;
            System.out.println(call + " answered " + got + ", due is " + want);
        }
    }

    public static void main(String[] args) {
        LeapJoin j = new LeapJoin();
        due("pair(0, 1, 2, true)", j.pair(0, 1, 2, true) ? 1 : 0, 1);
        due("pair(0, 2, 3, true)", j.pair(0, 2, 3, true) ? 1 : 0, 1);
        due("atom(0, 0, 1)", j.atom(0, 0, 1), 1);
        due("atom(0, 1, 2)", j.atom(0, 1, 2), 2);
        due("count()", j.count(), 1);
        due("answer(0)", j.answer(0), 664);
        due("values(1)", j.values(1), 4);
        due("loss(0, 1, 2)", j.loss(0, 1, 2), 1);
        due("drop()", j.drop(), 1);
        System.out.println(wrong == 0 ? "all answers are as due" : wrong + " answers are not as due");
        if (wrong != 0) {
            System.exit(1);
        }
    }
}
