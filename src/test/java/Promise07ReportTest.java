/** Promise 7: report. */
final class Promise07ReportTest {
    public static void main(String[] args) {
        Check check = new Check("promise 7");
        dueFirstArea(check);
        dueSquare(check);
        dueSizes(check);
        dueEachGear(check);
        dueThreeDays(check);
        dueNoPlace(check);
        dueNoDay(check);
        dueNoSize(check);
        dueNotWithin(check);
        dueNoSuchArea(check);
        dueNoRoom(check);
        dueWrongComesFirst(check);
        check.end();
    }

    private static void dueFirstArea(Check check) {
        check.sentence("the first AREA that is not there, and has no CORNERS");
        AreaCrossings x = new AreaCrossings(5);
        x.corner(0, 1, 1);
        Check.rectangle(x, 1, 0, 0, 5, 5);
        x.bars(2, 0, 300, 300);
        x.speed(2, 5);
        check.due("not the one with a corner, nor the one that is there", x.report(50, 50, 0, 1), 2);
        check.due("its rule from before", x.told(2, 300), true);
        check.due("a ring that is refused", x.ring(0), false);
        check.due("has no corners any more", x.report(60, 60, 0, 1), 0);
        check.due("the next one", x.report(70, 70, 0, 1), 3);
        x.corner(4, 999, 0);
        check.due("one whose corner was refused", x.report(70, 70, 0, 1), 4);
    }

    private static void dueSquare(Check check) {
        check.sentence("becomes a square around a place, size units each way");
        AreaCrossings x = new AreaCrossings(1);
        check.due("report", x.report(100, -50, 5, 20), 0);
        int[][] on = {{120, -70}, {120, -30}, {80, -70}, {80, -30}, {100, -50}, {120, -50}, {80, -50}, {100, -30}, {100, -70}};
        for (int[] place : on) {
            check.due("on it, " + place[0] + ", " + place[1], x.cell(place[0], place[1], 5), 1);
        }
        int[][] out = {{121, -50}, {79, -50}, {100, -29}, {100, -71}, {121, -71}, {121, -29}, {79, -71}, {79, -29}, {121, -70}};
        for (int[] place : out) {
            check.due("beside it, " + place[0] + ", " + place[1], x.cell(place[0], place[1], 5), 0);
        }
        check.due("its ring is closed", x.corner(0, 0, 0), false);
        check.due("none is being made", x.ring(0), false);
        check.due("it is there", x.hole(0), true);
    }

    private static void dueSizes(Check check) {
        check.sentence("size units each way (1 .. 20)");
        for (int size = 1; size <= 20; size++) {
            AreaCrossings x = new AreaCrossings(1);
            check.due("report of " + size, x.report(-7, 9, 0, size), 0);
            check.due("on a corner", x.cell(-7 - size, 9 + size, 0), 1);
            check.due("right of it", x.cell(-7 + size + 1, 9, 0), 0);
            check.due("below it", x.cell(-7, 9 - size - 1, 0), 0);
            check.due("left of it", x.cell(-7 - size - 1, 9, 0), 0);
            check.due("above it", x.cell(-7, 9 + size + 1, 0), 0);
        }
    }

    private static void dueEachGear(Check check) {
        check.sentence("a RULE bars each GEAR");
        AreaCrossings x = new AreaCrossings(1);
        x.report(100, -50, 5, 20);
        int t = Check.path(x, 432_000, 100, -50, 432_060, 101, -50, 432_120, 102, -50);
        for (int gear = 0; gear < 8; gear++) {
            check.due("run with gear " + gear, x.run(t, gear), 1);
        }
        for (int i = 0; i < 32; i++) {
            check.due("those are eight rules: rule " + (i + 8), x.bars(0, 0, 0, 0), true);
        }
        check.due("rule 40", x.bars(0, 0, 0, 0), false);
    }

    private static void dueThreeDays(Check check) {
        check.sentence("on that DAY and the two behind it");
        long[] days = {0, 1, 5, 397, 398};
        for (long day : days) {
            AreaCrossings x = new AreaCrossings(1);
            check.due("report on " + day, x.report(0, 0, day, 1), 0);
            for (long other = day - 3; other <= day + 5; other++) {
                check.due("told(0, " + other + ")", x.told(0, other), other >= day && other <= day + 2);
            }
        }
        AreaCrossings x = new AreaCrossings(1);
        x.report(0, 0, 5, 1);
        int t = Check.path(x, 431_990, 0, 0, 431_999, 0, 0, 432_000, 1, 0, 432_001, 0, 0);
        int late = Check.path(x, 691_199, 0, 0, 691_200, 0, 0, 691_201, 0, 0);
        for (int gear = 0; gear < 8; gear++) {
            check.due("run with gear " + gear, x.run(t, gear), 1);
            check.due("enters on day 5", x.entry(0, 0), 2);
            check.due("run on day 7 and 8", x.run(late, gear), 1);
            check.due("enters on day 7", x.entry(0, 0), 0);
        }
    }

    private static void dueRefused(Check check, int want, long atX, long atY, long day, int size) {
        String call = "report(" + atX + ", " + atY + ", " + day + ", " + size + ")";
        check.due(call, new AreaCrossings(12).report(atX, atY, day, size), want);
    }

    private static void dueNoPlace(Check check) {
        check.sentence("-1 if the place is none");
        long[] near = {201, -201, 202, -202, 220, -220, 256, -256};
        for (long value : near) {
            dueRefused(check, -1, value, 0, 0, 1);
            dueRefused(check, -1, 0, value, 0, 1);
        }
        for (long value : Check.WRAPPED) {
            dueRefused(check, -1, value, 0, 0, 1);
            dueRefused(check, -1, 0, value, 0, 1);
            dueRefused(check, -1, value, value, 0, 20);
        }
        dueRefused(check, -1, Long.MIN_VALUE, 0, 0, 20);
        dueRefused(check, -1, Long.MAX_VALUE, 0, 0, 20);
        dueUnchanged(check, 201, 0, 0, 1);
        dueUnchanged(check, 0, -201, 0, 1);
    }

    /** Neither an area nor a rule comes of a report that is refused. */
    private static void dueUnchanged(Check check, long atX, long atY, long day, int size) {
        String call = "report(" + atX + ", " + atY + ", " + day + ", " + size + ")";
        Picture.dueUnchanged(check, call, y -> y.report(atX, atY, day, size));
        Picture.dueUnchanged(check, call + " of a new object", y -> { }, y -> y.report(atX, atY, day, size));
    }

    private static void dueNoDay(Check check) {
        check.sentence("-1 if the DAY (0 .. 398) is none");
        dueRefused(check, 0, 0, 0, 0, 1);
        dueRefused(check, 0, 0, 0, 398, 1);
        long[] near = {-1, -2, -3, 399, 400, 401};
        for (long day : near) {
            dueRefused(check, -1, 0, 0, day, 1);
        }
        for (long day : Check.WRAPPED) {
            dueRefused(check, -1, 0, 0, day, 1);
        }
        dueUnchanged(check, 0, 0, -1, 1);
        dueUnchanged(check, 0, 0, 399, 1);
    }

    private static void dueNoSize(Check check) {
        check.sentence("-1 if the size is none");
        dueRefused(check, 0, 0, 0, 0, 1);
        dueRefused(check, 0, 0, 0, 0, 20);
        int[] near = {0, -1, -2, -20, 21, 22};
        for (int size : near) {
            dueRefused(check, -1, 0, 0, 0, size);
        }
        for (int size : Check.FAR_INTS) {
            dueRefused(check, -1, 0, 0, 0, size);
        }
        dueUnchanged(check, 0, 0, 0, 0);
        dueUnchanged(check, 0, 0, 0, 21);
    }

    private static void dueNotWithin(Check check) {
        check.sentence("-1 if the square is not within the COORDINATES");
        for (int size = 1; size <= 20; size++) {
            int last = 200 - size;
            long[][] within = {{last, 0}, {-last, 0}, {0, last}, {0, -last}, {last, last}, {-last, -last}, {last, -last}};
            for (long[] place : within) {
                dueRefused(check, 0, place[0], place[1], 0, size);
            }
            int beyond = last + 1;
            long[][] out = {{beyond, 0}, {-beyond, 0}, {0, beyond}, {0, -beyond}, {beyond, last}, {last, -beyond}};
            for (long[] place : out) {
                dueRefused(check, -1, place[0], place[1], 0, size);
            }
        }
        dueRefused(check, -1, 200, 200, 0, 1);
        AreaCrossings x = new AreaCrossings(2);
        x.report(180, -180, 0, 20);
        check.due("at the edge", x.cell(200, -200, 0), 1);
        dueUnchanged(check, 200, 0, 0, 1);
        dueUnchanged(check, 0, -181, 0, 20);
    }

    private static void dueNoSuchArea(Check check) {
        check.sentence("-4 if there is no such AREA");
        AreaCrossings x = new AreaCrossings(1);
        check.due("the only one", x.report(0, 0, 0, 1), 0);
        check.due("none left", x.report(9, 9, 0, 1), -4);
        AreaCrossings y = new AreaCrossings(12);
        for (int area = 0; area < 11; area++) {
            y.corner(area, 0, 0);
        }
        check.due("the twelfth", y.report(9, 9, 0, 1), 11);
        check.due("none left of twelve", y.report(9, 9, 0, 1), -4);
        Picture.dueUnchanged(check, "report without an area", Promise07ReportTest::takeAllAreas, z -> z.report(9, 9, 0, 1));
    }

    private static void takeAllAreas(AreaCrossings x) {
        Check.rectangle(x, 0, 0, 0, 5, 5);
        x.corner(1, 9, 9);
        x.report(9, 9, 0, 1);
    }

    private static void dueNoRoom(Check check) {
        check.sentence("-4 if there is no room for eight RULES");
        for (int before = 30; before <= 40; before++) {
            AreaCrossings x = new AreaCrossings(12);
            for (int i = 0; i < before; i++) {
                x.bars(3, 0, 0, 0);
            }
            check.due("report behind " + before + " rules", x.report(0, 50, 0, 1), before <= 32 ? 0 : -4);
            check.due("its area", x.buffer(0, 0), before <= 32 ? 0 : -1);
            for (int i = before <= 32 ? before + 8 : before; i < 40; i++) {
                check.due("rule " + i, x.bars(1, 0, 0, 0), true);
            }
            check.due("rule 40", x.bars(1, 0, 0, 0), false);
        }
        AreaCrossings x = new AreaCrossings(12);
        for (int i = 0; i < 5; i++) {
            check.due("report " + i, x.report(10 * i, 0, 0, 1), i);
        }
        check.due("a sixth one", x.report(0, 50, 0, 1), -4);
        check.due("no area comes of it", x.hole(5), false);
        Picture.dueUnchanged(check, "report without room", Promise07ReportTest::make33, y -> y.report(9, 9, 0, 1));
    }

    private static void make33(AreaCrossings x) {
        for (int i = 0; i < 33; i++) {
            x.bars(1, 0, 0, 0);
        }
    }

    private static void dueWrongComesFirst(Check check) {
        check.sentence("-1 .. ; -4 ..: what is wrong in itself is told before what has no room");
        AreaCrossings x = new AreaCrossings(1);
        Check.rectangle(x, 0, 0, 0, 5, 5);
        check.due("no such area", x.report(9, 9, 0, 1), -4);
        check.due("no place", x.report(201, 9, 0, 1), -1);
        check.due("no day", x.report(9, 9, 399, 1), -1);
        check.due("no size", x.report(9, 9, 0, 0), -1);
        check.due("not within", x.report(200, 9, 0, 1), -1);
    }
}
