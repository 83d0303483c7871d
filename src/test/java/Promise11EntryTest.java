/** Promise 11: entry. */
final class Promise11EntryTest {
    public static void main(String[] args) {
        Check check = new Check();
        AreaCrossings x = new AreaCrossings(3);
        for (int part = -1; part <= 4; part++) {
            check.due("entry(0, " + part + ") before a run", x.entry(0, part), -1);
        }
        Check.rectangle(x, 2, 0, 0, 10, 10);
        x.bars(2, 0, 0, 0);
        int t = Check.path(x, 0, -20, 5, 60, -5, 5, 120, 1, 5, 180, 14, 5);
        check.due("run", x.run(t, 0), 2);
        check.due("piece", x.entry(0, 0), 1);
        check.due("numerator", x.entry(0, 1), 5);
        check.due("denominator", x.entry(0, 2), 6);
        check.due("area", x.entry(0, 3), 2);
        check.due("piece of the second", x.entry(1, 0), 2);
        check.due("numerator of the second", x.entry(1, 1), 9);
        check.due("denominator of the second", x.entry(1, 2), 13);
        check.due("area of the second", x.entry(1, 3), 2);
        int[] noPart = {4, -1, Integer.MIN_VALUE, Integer.MAX_VALUE};
        int[] none = {2, -1, 300, Integer.MIN_VALUE, Integer.MAX_VALUE};
        for (int part : noPart) {
            check.due("part " + part, x.entry(1, part), -2);
            check.due("part " + part + " of none", x.entry(2, part), -1);
        }
        for (int k : none) {
            check.due("entry(" + k + ")", x.entry(k, 0), -1);
        }
        int still = Check.path(x, 0, 10, 10, 60, 20, 10);
        check.due("run from a corner", x.run(still, 0), 2);
        check.due("0 / 1", x.entry(0, 1), 0);
        check.due("its denominator", x.entry(0, 2), 1);
        check.due("0 / 1 where it leaves", x.entry(1, 2), 1);
        int toIt = Check.path(x, 0, 20, 10, 60, 10, 10);
        check.due("run to a corner", x.run(toIt, 0), 1);
        check.due("1 / 1", x.entry(0, 1), 1);
        check.due("its denominator at the end", x.entry(0, 2), 1);
        check.due("the run before is gone", x.entry(1, 0), -1);
        check.end();
    }
}
