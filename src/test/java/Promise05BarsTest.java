/** Promise 5: bars. */
final class Promise05BarsTest {
    public static void main(String[] args) {
        Check check = new Check("promise 5");
        dueARule(check);
        dueNoSuchArea(check);
        dueNoSuchGear(check);
        dueNoSuchDay(check);
        dueFirstAboveLast(check);
        dueForty(check);
        dueFortyWithReports(check);
        dueRefusedAreNone(check);
        check.end();
    }

    private static void dueARule(Check check) {
        check.sentence("A RULE");
        AreaCrossings x = new AreaCrossings(2);
        // An area that is not there yet may have rules.
        check.due("bars(0, 0, 10, 10)", x.bars(0, 0, 10, 10), true);
        check.due("bars(0, 7, 390, 400)", x.bars(0, 7, 390, 400), true);
        check.due("bars(1, 7, 0, 400)", x.bars(1, 7, 0, 400), true);
        Check.rectangle(x, 0, 0, 0, 5, 5);
        check.due("told 9", x.told(0, 9), false);
        check.due("told 10", x.told(0, 10), true);
        check.due("told 11", x.told(0, 11), false);
        check.due("told 389", x.told(0, 389), false);
        check.due("told 390", x.told(0, 390), true);
        check.due("told 400", x.told(0, 400), true);
        check.due("told(1) that is not there", x.told(1, 5), false);
        Check.rectangle(x, 1, 0, 0, 5, 5);
        check.due("told(1) that is there", x.told(1, 5), true);
    }

    private static void dueNoSuchArea(Check check) {
        check.sentence("false if there is no such AREA");
        for (int areas = 1; areas <= 12; areas++) {
            AreaCrossings x = new AreaCrossings(areas);
            check.due("the first of " + areas, x.bars(0, 0, 0, 1), true);
            check.due("the last of " + areas, x.bars(areas - 1, 0, 0, 1), true);
            check.due("one behind " + areas, x.bars(areas, 0, 0, 1), false);
            check.due("one before " + areas, x.bars(-1, 0, 0, 1), false);
        }
        AreaCrossings x = new AreaCrossings(2);
        for (int area : Check.FAR_INTS) {
            check.due("bars(" + area + ")", x.bars(area, 0, 0, 1), false);
        }
        Picture.dueUnchanged(check, "bars(3, 0, 0, 1)", y -> y.bars(3, 0, 0, 1));
        Picture.dueUnchanged(check, "bars(-1, 0, 0, 1)", y -> y.bars(-1, 0, 0, 1));
    }

    private static void dueNoSuchGear(Check check) {
        check.sentence("false if there is no such GEAR");
        AreaCrossings x = new AreaCrossings(2);
        for (int gear = 0; gear <= 7; gear++) {
            check.due("gear " + gear, x.bars(0, gear, 0, 1), true);
        }
        check.due("gear 8", x.bars(0, 8, 0, 1), false);
        check.due("gear -1", x.bars(0, -1, 0, 1), false);
        for (int gear : Check.FAR_INTS) {
            check.due("gear " + gear, x.bars(0, gear, 0, 1), false);
        }
        Picture.dueUnchanged(check, "gear 8", y -> y.bars(2, 8, 0, 1));
        Picture.dueUnchanged(check, "gear -1", y -> y.bars(2, -1, 0, 1));
    }

    private static void dueNoSuchDay(Check check) {
        check.sentence("false if there is no such DAY");
        AreaCrossings x = new AreaCrossings(2);
        check.due("days 0 .. 0", x.bars(1, 0, 0, 0), true);
        check.due("days 400 .. 400", x.bars(1, 0, 400, 400), true);
        check.due("days 0 .. 400", x.bars(1, 0, 0, 400), true);
        int[][] refused = {{-1, 0}, {-1, 5}, {-1, -1}, {-2, -1}, {-1, 400}, {400, 401}, {5, 401}, {401, 401}, {401, 402},
            {0, 401}, {-1, 401}, {0, Integer.MAX_VALUE}, {Integer.MIN_VALUE, 5}, {Integer.MIN_VALUE, Integer.MIN_VALUE},
            {Integer.MIN_VALUE, Integer.MAX_VALUE}, {Integer.MAX_VALUE, Integer.MAX_VALUE}, {1 << 16, (1 << 16) + 1}};
        for (int[] days : refused) {
            check.due("days " + days[0] + " .. " + days[1], x.bars(0, 0, days[0], days[1]), false);
        }
        Check.rectangle(x, 0, 0, 0, 5, 5);
        for (int day = 0; day <= 400; day++) {
            check.due("told(0, " + day + ")", x.told(0, day), false);
        }
        Picture.dueUnchanged(check, "days -1 .. 0", y -> y.bars(2, 0, -1, 0));
        Picture.dueUnchanged(check, "days 400 .. 401", y -> y.bars(2, 0, 400, 401));
    }

    private static void dueFirstAboveLast(Check check) {
        check.sentence("false if the first is above the last");
        AreaCrossings x = new AreaCrossings(1);
        int[][] refused = {{1, 0}, {5, 4}, {400, 399}, {400, 0}};
        for (int[] days : refused) {
            check.due("days " + days[0] + " .. " + days[1], x.bars(0, 0, days[0], days[1]), false);
        }
        check.due("days 5 .. 5", x.bars(0, 0, 5, 5), true);
        check.due("days 5 .. 6", x.bars(0, 0, 5, 6), true);
        Picture.dueUnchanged(check, "days 1 .. 0", y -> y.bars(2, 0, 1, 0));
    }

    private static void dueForty(Check check) {
        check.sentence("false if there are 40");
        AreaCrossings x = new AreaCrossings(2);
        for (int i = 0; i < 39; i++) {
            check.due("rule " + i, x.bars(0, 1, 3, 4), true);
        }
        check.due("rule 39", x.bars(1, 1, 5, 5), true);
        check.due("rule 40", x.bars(0, 1, 3, 4), false);
        check.due("rule 40 of another area", x.bars(1, 1, 3, 4), false);
        check.due("rule 40 again", x.bars(1, 2, 6, 6), false);
        Check.rectangle(x, 1, 0, 0, 5, 5);
        check.due("the last one that was taken", x.told(1, 5), true);
        check.due("one that was refused", x.told(1, 3), false);
        check.due("another one", x.told(1, 6), false);
        Check.rectangle(x, 0, 0, 0, 5, 5);
        check.due("those from before", x.told(0, 3), true);
        Picture.dueUnchanged(check, "a rule when there are 40", Promise05BarsTest::makeForty, y -> y.bars(2, 0, 0, 400));
    }

    private static void makeForty(AreaCrossings x) {
        Check.rectangle(x, 2, 0, 0, 20, 20);
        for (int i = 0; i < 40; i++) {
            x.bars(1, 1, 3, 4);
        }
    }

    private static void dueFortyWithReports(Check check) {
        check.sentence("false if there are 40: those of a report are among them");
        AreaCrossings x = new AreaCrossings(2);
        x.report(0, 0, 0, 1);
        for (int i = 0; i < 32; i++) {
            check.due("rule " + (i + 8), x.bars(1, 1, 3, 4), true);
        }
        check.due("rule 40", x.bars(1, 1, 3, 4), false);
    }

    private static void dueRefusedAreNone(Check check) {
        check.sentence("false if there are 40: those that were refused are not among them");
        AreaCrossings x = new AreaCrossings(1);
        for (int i = 0; i < 20; i++) {
            x.bars(1, 0, 0, 0);
            x.bars(0, 8, 0, 0);
            x.bars(0, 0, -1, 0);
            x.bars(0, 0, 0, 401);
            x.bars(0, 0, 1, 0);
        }
        for (int i = 0; i < 40; i++) {
            check.due("rule " + i, x.bars(0, 0, 0, 0), true);
        }
        check.due("rule 40", x.bars(0, 0, 0, 0), false);
    }
}
