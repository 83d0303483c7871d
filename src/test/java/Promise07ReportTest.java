/** Promise 7: report. */
final class Promise07ReportTest {
    public static void main(String[] args) {
        Check check = new Check();
        dueSquare(check);
        dueWrong(check);
        dueFirstArea(check);
        dueNoRoom(check);
        check.end();
    }

    private static void dueSquare(Check check) {
        AreaCrossings x = new AreaCrossings(1);
        check.due("report", x.report(100, -50, 5, 20), 0);
        check.due("a corner", x.cell(120, -70, 5), 1);
        check.due("another one", x.cell(80, -30, 7), 1);
        check.due("right of it", x.cell(121, -50, 6), 0);
        check.due("left of it", x.cell(79, -50, 6), 0);
        check.due("above it", x.cell(100, -29, 6), 0);
        check.due("below it", x.cell(100, -71, 6), 0);
        check.due("a day before", x.told(0, 4), false);
        check.due("that day", x.told(0, 5), true);
        check.due("the last day", x.told(0, 7), true);
        check.due("the day behind it", x.told(0, 8), false);
        int t = Check.path(x, 432000, 100, -50, 432060, 101, -50, 432120, 102, -50);
        for (int gear = 0; gear < 8; gear++) {
            check.due("run with gear " + gear, x.run(t, gear), 1);
        }
        check.due("its ring is closed", x.corner(0, 0, 0), false);
        check.due("none is being made", x.ring(0), false);
    }

    private static void dueWrong(Check check) {
        AreaCrossings x = new AreaCrossings(12);
        long[] noPlace = {201, -201, 1L << 32, Long.MIN_VALUE, Long.MAX_VALUE};
        for (long value : noPlace) {
            check.due("report at " + value, x.report(value, 0, 0, 1), -1);
            check.due("report at 0, " + value, x.report(0, value, 0, 1), -1);
        }
        long[] noDay = {-1, 399, 400, 1L << 32, Long.MIN_VALUE, Long.MAX_VALUE};
        for (long day : noDay) {
            check.due("report on " + day, x.report(0, 0, day, 1), -1);
        }
        int[] noSize = {0, -1, 21, Integer.MIN_VALUE, Integer.MAX_VALUE};
        for (int size : noSize) {
            check.due("report of " + size, x.report(0, 0, 0, size), -1);
        }
        check.due("too far right", x.report(181, 0, 0, 20), -1);
        check.due("too far left", x.report(-181, 0, 0, 20), -1);
        check.due("too far up", x.report(0, 200, 0, 1), -1);
        check.due("too far down", x.report(0, -200, 0, 1), -1);
        check.due("just within", x.report(180, -180, 398, 20), 0);
        check.due("just within, smaller", x.report(-199, 199, 0, 1), 1);
        check.due("told on the last day", x.told(0, 400), true);
    }

    private static void dueFirstArea(Check check) {
        AreaCrossings x = new AreaCrossings(4);
        x.corner(0, 1, 1);
        Check.rectangle(x, 1, 0, 0, 5, 5);
        x.bars(2, 0, 300, 300);
        check.due("not the one with a corner", x.report(50, 50, 0, 1), 2);
        check.due("its rule from before", x.told(2, 300), true);
        check.due("a ring that is refused", x.ring(0), false);
        check.due("has no corners any more", x.report(60, 60, 0, 1), 0);
        check.due("the last one", x.report(70, 70, 0, 1), 3);
        check.due("none left", x.report(80, 80, 0, 1), -4);
        check.due("wrong ones come first", x.report(80, 80, 0, 0), -1);
    }

    private static void dueNoRoom(Check check) {
        AreaCrossings x = new AreaCrossings(12);
        for (int i = 0; i < 5; i++) {
            check.due("report " + i, x.report(10 * i, 0, 0, 1), i);
        }
        check.due("a sixth", x.report(0, 50, 0, 1), -4);
        check.due("no rule", x.bars(5, 0, 0, 0), false);
        check.due("no area", x.hole(5), false);
        AreaCrossings y = new AreaCrossings(12);
        for (int i = 0; i < 33; i++) {
            y.bars(0, 0, 0, 0);
        }
        check.due("room for seven", y.report(0, 50, 0, 1), -4);
        check.due("no area then", y.buffer(0, 0), -1);
        for (int i = 0; i < 7; i++) {
            check.due("one of the seven", y.bars(0, 0, 0, 0), true);
        }
        check.due("no room", y.bars(0, 0, 0, 0), false);
        AreaCrossings z = new AreaCrossings(12);
        for (int i = 0; i < 32; i++) {
            z.bars(0, 0, 0, 0);
        }
        check.due("room for eight", z.report(0, 50, 0, 1), 0);
    }
}
