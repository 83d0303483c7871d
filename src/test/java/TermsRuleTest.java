/** The terms on rules. */
final class TermsRuleTest {
    private static final long DAY = 86_400;

    public static void main(String[] args) {
        Check check = new Check("terms");
        dueAtMostForty(check);
        dueGears(check);
        dueDays(check);
        dueFromOneToAnother(check);
        dueThatAreaAlone(check);
        check.end();
    }

    private static void dueAtMostForty(Check check) {
        check.sentence("RULES, at most 40");
        AreaCrossings x = new AreaCrossings(12);
        for (int i = 0; i < 60; i++) {
            check.due("rule " + i, x.bars(i % 12, i % 8, i, i), i < 40);
        }
        for (int area = 0; area < 12; area++) {
            Check.rectangle(x, area, 0, 0, 5, 5);
        }
        for (int day = 0; day < 60; day++) {
            check.due("cell on day " + day, x.cell(1, 1, day), day < 40 ? 1 : 0);
            check.due("told of rule " + day, x.told(day % 12, day), day < 40);
        }
    }

    private static void dueGears(Check check) {
        check.sentence("an AREA bars a GEAR 0 .. 7");
        for (int gear = -2; gear <= 9; gear++) {
            AreaCrossings x = new AreaCrossings(1);
            Check.rectangle(x, 0, 0, 0, 10, 10);
            boolean is = gear >= 0 && gear <= 7;
            check.due("bars gear " + gear, x.bars(0, gear, 0, 0), is);
            check.due("told", x.told(0, 0), is);
            int t = Check.path(x, 0, -5, 5, 60, 5, 5);
            for (int other = 0; other < 8; other++) {
                check.due("run with " + other + " where " + gear + " is barred", x.run(t, other), other == gear ? 1 : 0);
            }
        }
    }

    private static void dueDays(Check check) {
        check.sentence("on the DAYS from one to another one, 0 .. 400");
        for (int day = -3; day <= 403; day++) {
            AreaCrossings x = new AreaCrossings(1);
            Check.rectangle(x, 0, 0, 0, 5, 5);
            boolean is = day >= 0 && day <= 400;
            check.due("bars on day " + day, x.bars(0, 0, day, day), is);
            check.due("told", x.told(0, day), is);
            check.due("cell", x.cell(0, 0, day), is ? 1 : 0);
            check.due("from 0 to day " + day, x.bars(0, 0, 0, day), is);
            check.due("from day " + day + " to 400", x.bars(0, 0, day, 400), is);
        }
    }

    private static void dueFromOneToAnother(Check check) {
        check.sentence("on the DAYS from one to another one: the first and the last belong to them");
        AreaCrossings x = new AreaCrossings(1);
        Check.rectangle(x, 0, 0, 0, 10, 10);
        x.bars(0, 0, 10, 12);
        for (int day = 8; day <= 14; day++) {
            check.due("told on day " + day, x.told(0, day), day >= 10 && day <= 12);
            check.due("cell on day " + day, x.cell(5, 5, day), day >= 10 && day <= 12 ? 1 : 0);
        }
        int t = Check.path(x, 10 * DAY - 1, 5, 5, 10 * DAY, 5, 5, 10 * DAY + 1, 5, 5, 13 * DAY - 1, 5, 5, 13 * DAY, 5, 5,
            13 * DAY + 1, 5, 5);
        check.due("run", x.run(t, 0), 2);
        // Piece 2 is a gap.
        check.dueCrossings("days 10 and 12, not 9 and 13", x, "1:0+0/1 3:0+0/1");
    }

    private static void dueThatAreaAlone(Check check) {
        check.sentence("an AREA bars a GEAR: the others do not");
        AreaCrossings x = new AreaCrossings(12);
        for (int area = 0; area < 12; area++) {
            Check.rectangle(x, area, 0, 0, 5, 5);
            x.bars(area, 0, area, area);
        }
        for (int area = 0; area < 12; area++) {
            for (int day = 0; day < 13; day++) {
                check.due("told(" + area + ", " + day + ")", x.told(area, day), area == day);
            }
        }
    }
}
