/** Promise 5: bars. */
final class Promise05BarsTest {
    public static void main(String[] args) {
        Check check = new Check();
        dueWrong(check);
        dueEdges(check);
        dueForty(check);
        check.end();
    }

    private static void dueWrong(Check check) {
        AreaCrossings x = new AreaCrossings(2);
        int[] none = {2, -1, Integer.MIN_VALUE, Integer.MAX_VALUE};
        for (int area : none) {
            check.due("bars(" + area + ")", x.bars(area, 0, 0, 1), false);
        }
        int[] noGear = {8, -1, Integer.MIN_VALUE, Integer.MAX_VALUE};
        for (int gear : noGear) {
            check.due("gear " + gear, x.bars(0, gear, 0, 1), false);
        }
        check.due("days -1 .. 5", x.bars(0, 0, -1, 5), false);
        check.due("days 5 .. 401", x.bars(0, 0, 5, 401), false);
        check.due("days 401 .. 401", x.bars(0, 0, 401, 401), false);
        check.due("days -1 .. -1", x.bars(0, 0, -1, -1), false);
        check.due("days 5 .. 4", x.bars(0, 0, 5, 4), false);
        check.due("days min .. max", x.bars(0, 0, Integer.MIN_VALUE, Integer.MAX_VALUE), false);
        Check.rectangle(x, 0, 0, 0, 5, 5);
        for (int day = 0; day <= 400; day++) {
            check.due("told(0, " + day + ")", x.told(0, day), false);
        }
    }

    private static void dueEdges(Check check) {
        AreaCrossings x = new AreaCrossings(2);
        // An area that is not there yet may have rules.
        check.due("bars(0, 0, 10, 10)", x.bars(0, 0, 10, 10), true);
        check.due("bars(0, 7, 390, 400)", x.bars(0, 7, 390, 400), true);
        check.due("bars(1, 7, 0, 400)", x.bars(1, 7, 0, 400), true);
        Check.rectangle(x, 0, 0, 0, 5, 5);
        check.due("told 9", x.told(0, 9), false);
        check.due("told 10", x.told(0, 10), true);
        check.due("told 11", x.told(0, 11), false);
        check.due("told 389", x.told(0, 389), false);
        check.due("told 390", x.told(0, 390), true);
        check.due("told 400", x.told(0, 400), true);
        check.due("told(1) that is not there", x.told(1, 5), false);
        Check.rectangle(x, 1, 0, 0, 5, 5);
        check.due("told(1) that is there", x.told(1, 5), true);
    }

    private static void dueForty(Check check) {
        AreaCrossings x = new AreaCrossings(2);
        for (int i = 0; i < 40; i++) {
            check.due("rule " + i, x.bars(0, 1, 3, 4), true);
        }
        check.due("rule 40", x.bars(0, 1, 3, 4), false);
        check.due("rule 40 of another area", x.bars(1, 1, 3, 4), false);
        Check.rectangle(x, 1, 0, 0, 5, 5);
        check.due("told(1)", x.told(1, 3), false);
    }
}
