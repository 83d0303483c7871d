/** Promise 6: speed. */
final class Promise06SpeedTest {
    public static void main(String[] args) {
        Check check = new Check("promise 6");
        dueOfAnArea(check);
        dueNoneAnyMore(check);
        dueNoSuchArea(check);
        dueNoSuchSpeed(check);
        dueBeforeItIsThere(check);
        check.end();
    }

    /** 60 units in a minute are 3600 an hour. */
    private static AreaCrossings withTrack() {
        AreaCrossings x = new AreaCrossings(2);
        Check.rectangle(x, 0, 10, -5, 20, 5);
        Check.rectangle(x, 1, 10, -5, 20, 5);
        x.bars(0, 0, 0, 0);
        x.bars(1, 0, 0, 0);
        Check.path(x, 0, 0, 0, 60, 60, 0, 120, 60, 0, 3720, 60, 0);
        return x;
    }

    private static void dueOfAnArea(Check check) {
        check.sentence("The SPEED of an AREA");
        AreaCrossings x = withTrack();
        check.due("without speed", x.run(0, 0), 4);
        check.due("speed(0, 3601)", x.speed(0, 3601), true);
        check.due("slower", x.run(0, 0), 4);
        check.due("speed(0, 3600)", x.speed(0, 3600), true);
        check.due("as fast", x.run(0, 0), 2);
        check.dueCrossings("the other area has none", x, "0:1+1/6 0:1-1/3");
        check.due("speed(0, 3599)", x.speed(0, 3599), true);
        check.due("faster", x.run(0, 0), 2);
        check.due("the later one goes: speed(0, 3601)", x.speed(0, 3601), true);
        check.due("slower", x.run(0, 0), 4);
    }

    private static void dueNoneAnyMore(Check check) {
        check.sentence("0: none any more");
        AreaCrossings x = withTrack();
        x.speed(0, 1);
        x.speed(1, 1);
        check.due("fast in both", x.run(0, 0), 0);
        check.due("speed(0, 0)", x.speed(0, 0), true);
        check.due("fast in one", x.run(0, 0), 2);
        check.dueCrossings("fast in one", x, "0:0+1/6 0:0-1/3");
        check.due("speed(0, 0) again", x.speed(0, 0), true);
        check.due("speed(1, 0)", x.speed(1, 0), true);
        check.due("fast in none", x.run(0, 0), 4);
    }

    private static void dueNoSuchArea(Check check) {
        check.sentence("false if there is no such AREA");
        for (int areas = 1; areas <= 12; areas++) {
            AreaCrossings x = new AreaCrossings(areas);
            for (long least = 0; least <= 1; least++) {
                check.due("the first of " + areas, x.speed(0, least), true);
                check.due("the last of " + areas, x.speed(areas - 1, least), true);
                check.due("one behind " + areas, x.speed(areas, least), false);
                check.due("one before " + areas, x.speed(-1, least), false);
            }
        }
        AreaCrossings x = new AreaCrossings(2);
        for (int area : Check.FAR_INTS) {
            check.due("speed(" + area + ", 5)", x.speed(area, 5), false);
        }
        Picture.dueUnchanged(check, "speed(3, 1)", y -> y.speed(3, 1));
        Picture.dueUnchanged(check, "speed(-1, 1)", y -> y.speed(-1, 1));
    }

    private static void dueNoSuchSpeed(Check check) {
        check.sentence("false if there is no such SPEED");
        AreaCrossings x = withTrack();
        check.due("speed(0, 100000)", x.speed(0, 100_000), true);
        check.due("speed(0, 99999)", x.speed(0, 99_999), true);
        check.due("speed(0, 1)", x.speed(0, 1), true);
        check.due("fast", x.run(0, 0), 2);
        long[] refused = {-1, -2, -3600, 100_001, 100_002, 1L << 17, 1L << 32, (1L << 32) + 5, 5 - (1L << 32),
            Integer.MIN_VALUE, Integer.MAX_VALUE, Long.MIN_VALUE, Long.MIN_VALUE + 5, Long.MAX_VALUE};
        for (long least : refused) {
            check.due("speed(0, " + least + ")", x.speed(0, least), false);
            check.due("the one before stays", x.run(0, 0), 2);
        }
        AreaCrossings y = withTrack();
        for (long least : refused) {
            check.due("speed(0, " + least + ")", y.speed(0, least), false);
            check.due("there is none still", y.run(0, 0), 4);
        }
        Picture.dueUnchanged(check, "speed(0, -1)", z -> z.speed(0, -1));
        Picture.dueUnchanged(check, "speed(0, 100001)", z -> z.speed(0, 100_001));
    }

    private static void dueBeforeItIsThere(Check check) {
        check.sentence("The SPEED of an AREA, there or not");
        AreaCrossings x = new AreaCrossings(1);
        check.due("speed(0, 3600)", x.speed(0, 3600), true);
        check.due("report", x.report(0, 0, 0, 5), 0);
        int fast = Check.path(x, 0, 0, 0, 1, 1, 0);
        int slow = Check.path(x, 0, 0, 0, 2, 1, 0);
        check.due("as fast", x.run(fast, 0), 0);
        check.due("slower", x.run(slow, 0), 1);
    }
}
