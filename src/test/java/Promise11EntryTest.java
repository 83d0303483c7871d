/** Promise 11: entry. */
final class Promise11EntryTest {
    public static void main(String[] args) {
        Check check = new Check("promise 11");
        dueParts(check);
        dueNoneYet(check);
        dueNoSuchCrossing(check);
        dueAnotherPart(check);
        dueBothWrong(check);
        dueLastRun(check);
        dueFull(check);
        check.end();
    }

    /** Two crossings of area 2: it enters at 5 / 6 of piece 1, and leaves at 9 / 13 of piece 2. */
    private static AreaCrossings withTwo() {
        AreaCrossings x = new AreaCrossings(3);
        Check.rectangle(x, 2, 0, 0, 10, 10);
        x.bars(2, 0, 0, 0);
        Check.path(x, 0, -20, 5, 60, -5, 5, 120, 1, 5, 180, 14, 5);
        x.run(0, 0);
        return x;
    }

    private static void dueParts(Check check) {
        check.sentence("0 its PIECE, 1 the numerator, 2 the denominator of its place, 3 its AREA");
        AreaCrossings x = withTwo();
        long[][] want = {{1, 5, 6, 2}, {2, 9, 13, 2}};
        for (int k = 0; k < 2; k++) {
            for (int part = 0; part < 4; part++) {
                check.due("entry(" + k + ", " + part + ")", x.entry(k, part), want[k][part]);
            }
        }
        check.due("run from a corner", x.run(Check.path(x, 0, 10, 10, 60, 20, 10), 0), 2);
        check.due("piece 0", x.entry(0, 0), 0);
        check.due("numerator at the beginning", x.entry(0, 1), 0);
        check.due("denominator at the beginning", x.entry(0, 2), 1);
        check.due("denominator where it leaves", x.entry(1, 2), 1);
        check.due("run to a corner", x.run(Check.path(x, 0, 20, 10, 60, 10, 10), 0), 1);
        check.due("numerator at the end", x.entry(0, 1), 1);
        check.due("denominator at the end", x.entry(0, 2), 1);
    }

    private static void dueNoneYet(Check check) {
        check.sentence("-1 if there is none: before a RUN, and behind one without CROSSINGS");
        AreaCrossings x = new AreaCrossings(3);
        for (int part = -1; part <= 4; part++) {
            check.due("entry(0, " + part + ") before a run", x.entry(0, part), -1);
        }
        x.run(x.track(), 0);
        for (int part = -1; part <= 4; part++) {
            check.due("entry(0, " + part + ") behind an empty run", x.entry(0, part), -1);
        }
    }

    private static void dueNoSuchCrossing(Check check) {
        check.sentence("-1 if there is none");
        AreaCrossings x = withTwo();
        for (int part = 0; part < 4; part++) {
            check.due("entry(-1, " + part + ")", x.entry(-1, part), -1);
            check.due("entry(2, " + part + ")", x.entry(2, part), -1);
            check.due("entry(3, " + part + ")", x.entry(3, part), -1);
            check.due("entry(299, " + part + ")", x.entry(299, part), -1);
            check.due("entry(300, " + part + ")", x.entry(300, part), -1);
        }
        for (int k : Check.FAR_INTS) {
            check.due("entry(" + k + ", 0)", x.entry(k, 0), -1);
        }
    }

    private static void dueAnotherPart(Check check) {
        check.sentence("else -2 for another part");
        AreaCrossings x = withTwo();
        for (int k = 0; k < 2; k++) {
            check.due("part -1", x.entry(k, -1), -2);
            check.due("part 4", x.entry(k, 4), -2);
            check.due("part 5", x.entry(k, 5), -2);
            for (int part : Check.FAR_INTS) {
                check.due("part " + part, x.entry(k, part), -2);
            }
        }
    }

    private static void dueBothWrong(Check check) {
        check.sentence("-1 if there is none, else -2");
        AreaCrossings x = withTwo();
        int[] none = {-1, 2, 300, Integer.MIN_VALUE, Integer.MAX_VALUE};
        int[] parts = {-1, 4, Integer.MIN_VALUE, Integer.MAX_VALUE};
        for (int k : none) {
            for (int part : parts) {
                check.due("entry(" + k + ", " + part + ")", x.entry(k, part), -1);
            }
        }
    }

    private static void dueLastRun(Check check) {
        check.sentence("Of CROSSING k of the last RUN");
        AreaCrossings x = withTwo();
        check.due("a run with one crossing", x.run(Check.path(x, 0, 20, 10, 60, 10, 10), 0), 1);
        check.due("its piece", x.entry(0, 0), 0);
        check.due("the second one of the run before is gone", x.entry(1, 0), -1);
        x.run(0, 1);
        check.due("none behind a run without", x.entry(0, 0), -1);
        x.run(0, 0);
        check.due("two again", x.entry(1, 2), 13);
    }

    /** 29 pieces, each of which is across the square: 58 crossings. */
    private static void dueFull(Check check) {
        check.sentence("Of CROSSING k of the last RUN: up to the last PIECE of a full TRACK");
        AreaCrossings x = Check.barred(0, 0, 10, 0, 10, 10, 0, 10);
        x.track();
        for (int i = 0; i < 30; i++) {
            x.place(0, i, i % 2 == 0 ? -10 : 20, 5);
        }
        check.due("run", x.run(0, 0), 58);
        for (int k = 0; k < 58; k++) {
            check.due("piece of " + k, x.entry(k, 0), k / 2);
            check.due("numerator of " + k, x.entry(k, 1), 1 + k % 2);
            check.due("denominator of " + k, x.entry(k, 2), 3);
        }
        check.due("none behind them", x.entry(58, 0), -1);
    }
}
