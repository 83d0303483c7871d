/** Promise 6: speed. */
final class Promise06SpeedTest {
    public static void main(String[] args) {
        Check check = new Check();
        dueWrong(check);
        dueFast(check);
        dueSlanted(check);
        dueFastest(check);
        check.end();
    }

    private static void dueWrong(Check check) {
        AreaCrossings x = new AreaCrossings(2);
        int[] none = {2, -1, Integer.MIN_VALUE, Integer.MAX_VALUE};
        for (int area : none) {
            check.due("speed(" + area + ", 5)", x.speed(area, 5), false);
            check.due("speed(" + area + ", 0)", x.speed(area, 0), false);
        }
        long[] wrong = {-1, 100_001, 1L << 32, Long.MIN_VALUE, Long.MAX_VALUE};
        for (long least : wrong) {
            check.due("speed(0, " + least + ")", x.speed(0, least), false);
        }
        check.due("speed(0, 0)", x.speed(0, 0), true);
        check.due("speed(0, 1) of what is not there", x.speed(0, 1), true);
        check.due("speed(1, 100000)", x.speed(1, 100_000), true);
    }

    /** 60 units in a minute are 3600 an hour. */
    private static void dueFast(Check check) {
        AreaCrossings x = new AreaCrossings(2);
        Check.rectangle(x, 0, 10, -5, 20, 5);
        Check.rectangle(x, 1, 10, -5, 20, 5);
        x.bars(0, 0, 0, 0);
        x.bars(1, 0, 0, 0);
        int t = Check.path(x, 0, 0, 0, 60, 60, 0, 120, 60, 0, 3720, 60, 0);
        check.due("without speed", x.run(t, 0), 4);
        check.due("speed(0, 3601)", x.speed(0, 3601), true);
        check.due("slower", x.run(t, 0), 4);
        x.speed(0, 3600);
        check.due("as fast", x.run(t, 0), 2);
        check.dueCrossings("the other area has none", x, "0:1+1/6 0:1-1/3");
        x.speed(0, 3599);
        check.due("faster", x.run(t, 0), 2);
        check.due("a wrong one changes nothing", x.speed(0, -1), false);
        check.due("still faster", x.run(t, 0), 2);
        check.due("inside, no matter how fast", x.inside(0, t, 0), 10_000);
        x.speed(0, 0);
        check.due("none any more", x.run(t, 0), 4);
    }

    /** 3, 4 in a second is 5 units; 1, 1 in an hour is more than one unit, and less than two. */
    private static void dueSlanted(Check check) {
        AreaCrossings x = new AreaCrossings(1);
        Check.rectangle(x, 0, 0, 0, 20, 20);
        x.bars(0, 0, 0, 0);
        int fast = Check.path(x, 0, 1, 1, 1, 4, 5);
        x.speed(0, 18_000);
        check.due("as fast", x.run(fast, 0), 0);
        x.speed(0, 18_001);
        check.due("slower", x.run(fast, 0), 1);
        int slow = Check.path(x, 0, 1, 1, 3600, 2, 2);
        x.speed(0, 1);
        check.due("faster than 1", x.run(slow, 0), 0);
        x.speed(0, 2);
        check.due("slower than 2", x.run(slow, 0), 1);
        int still = Check.path(x, 0, 1, 1, 3600, 1, 1);
        x.speed(0, 1);
        check.due("standing still is slower than 1", x.run(still, 0), 1);
    }

    /** 100,000 units an hour are 250 in nine seconds. */
    private static void dueFastest(Check check) {
        AreaCrossings x = new AreaCrossings(1);
        Check.rectangle(x, 0, -200, -200, 200, 200);
        x.bars(0, 0, 0, 0);
        x.speed(0, 100_000);
        int t = Check.path(x, 0, -125, 0, 9, 125, 0, 18, -124, 0, 27, -124, 0, 28, 200, 200, 29, -200, -200, 3629, 200, 200);
        check.due("run", x.run(t, 0), 2);
        check.dueCrossings("fastest", x, "1:0+0/1 5:0+0/1");
    }
}
