/** Promise 16: told. */
final class Promise16ToldTest {
    public static void main(String[] args) {
        Check check = new Check("promise 16");
        dueAnyGear(check);
        dueEachDay(check);
        dueThatIsThere(check);
        dueNoSuchArea(check);
        dueNoSuchDay(check);
        check.end();
    }

    private static void dueAnyGear(Check check) {
        check.sentence("Whether an AREA bars any GEAR");
        for (int gear = 0; gear < 8; gear++) {
            AreaCrossings x = new AreaCrossings(2);
            Check.rectangle(x, 0, 0, 0, 10, 10);
            Check.rectangle(x, 1, 0, 0, 10, 10);
            check.due("no rule", x.told(0, 3), false);
            x.bars(0, gear, 3, 3);
            check.due("a rule of gear " + gear, x.told(0, 3), true);
            check.due("none of the other one", x.told(1, 3), false);
        }
    }

    private static void dueEachDay(Check check) {
        check.sentence("on a DAY");
        AreaCrossings x = new AreaCrossings(1);
        Check.rectangle(x, 0, 0, 0, 10, 10);
        x.bars(0, 7, 3, 4);
        x.bars(0, 2, 6, 6);
        x.bars(0, 2, 399, 400);
        boolean[] want = {false, false, false, true, true, false, true, false};
        for (int day = 0; day < want.length; day++) {
            check.due("told(0, " + day + ")", x.told(0, day), want[day]);
        }
        check.due("told(0, 398)", x.told(0, 398), false);
        check.due("told(0, 399)", x.told(0, 399), true);
        check.due("told(0, 400)", x.told(0, 400), true);
    }

    private static void dueThatIsThere(Check check) {
        check.sentence("an AREA that is there");
        AreaCrossings x = new AreaCrossings(12);
        for (int area = 0; area < 12; area += 11) {
            x.bars(area, 2, 0, 400);
            check.due("without corners", x.told(area, 0), false);
            Check.corners(x, area, 0, 0, 10, 0, 10, 10);
            check.due("with corners", x.told(area, 0), false);
            x.ring(area);
            check.due("there now", x.told(area, 0), true);
            x.hole(area);
            check.due("while a hole is made", x.told(area, 0), true);
        }
    }

    private static void dueNoSuchArea(Check check) {
        check.sentence("an AREA that is there: there is no such one");
        AreaCrossings x = new AreaCrossings(2);
        for (int area = 0; area < 2; area++) {
            Check.rectangle(x, area, 0, 0, 10, 10);
            x.bars(area, 0, 0, 400);
        }
        check.due("told(-1, 3)", x.told(-1, 3), false);
        check.due("told(0, 3)", x.told(0, 3), true);
        check.due("told(1, 3)", x.told(1, 3), true);
        check.due("told(2, 3)", x.told(2, 3), false);
        check.due("told(12, 3)", x.told(12, 3), false);
        for (int area : Check.FAR_INTS) {
            check.due("told(" + area + ", 3)", x.told(area, 3), false);
        }
    }

    private static void dueNoSuchDay(Check check) {
        check.sentence("on a DAY: there is no such one");
        AreaCrossings x = Check.barred(0, 0, 10, 0, 10, 10);
        check.due("told(0, 0)", x.told(0, 0), true);
        check.due("told(0, 400)", x.told(0, 400), true);
        check.due("told(0, -1)", x.told(0, -1), false);
        check.due("told(0, 401)", x.told(0, 401), false);
        for (long day : Check.WRAPPED) {
            check.due("told(0, " + day + ")", x.told(0, day), false);
        }
    }
}
