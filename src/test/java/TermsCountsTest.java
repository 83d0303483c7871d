/** The terms on which piece counts, and which is fast. */
final class TermsCountsTest {
    public static void main(String[] args) {
        Check check = new Check("terms");
        dueThere(check);
        dueNoGap(check);
        dueARuleBars(check);
        dueNotFast(check);
        dueSpeeds(check);
        dueAsFast(check);
        dueAsFastSlanted(check);
        dueFastest(check);
        dueStandingStill(check);
        dueFastThere(check);
        dueAGapIsNone(check);
        check.end();
    }

    /** A piece from outside into the square 0 .. 10, so many seconds long, from that second on. */
    private static int into(AreaCrossings x, long second, long seconds) {
        return Check.path(x, second, -5, 5, second + seconds, 5, 5);
    }

    private static void dueThere(Check check) {
        check.sentence("A PIECE COUNTS for an AREA that is there");
        AreaCrossings x = new AreaCrossings(1);
        x.bars(0, 0, 0, 400);
        int t = into(x, 0, 60);
        check.due("without corners", x.run(t, 0), 0);
        Check.corners(x, 0, 0, 0, 10, 0, 10, 10, 0, 10);
        check.due("before it is closed", x.run(t, 0), 0);
        x.ring(0);
        check.due("behind that", x.run(t, 0), 1);
    }

    private static void dueNoGap(Check check) {
        check.sentence("COUNTS if it is no GAP");
        AreaCrossings x = Check.barred(0, 0, 10, 0, 10, 10, 0, 10);
        check.due("3600 seconds", x.run(into(x, 0, 3600), 0), 1);
        check.due("3601 seconds", x.run(into(x, 0, 3601), 0), 0);
        check.due("as long as can be", x.run(into(x, 0, 40_000_000), 0), 0);
    }

    private static void dueARuleBars(Check check) {
        check.sentence("COUNTS if a RULE bars the GEAR on its DAY there");
        AreaCrossings x = new AreaCrossings(2);
        Check.rectangle(x, 0, 0, 0, 10, 10);
        int t = into(x, 3 * 86_400, 60);
        check.due("no rule", x.run(t, 4), 0);
        x.bars(0, 3, 3, 3);
        x.bars(0, 5, 3, 3);
        check.due("rules of other gears", x.run(t, 4), 0);
        x.bars(0, 4, 0, 2);
        x.bars(0, 4, 4, 400);
        check.due("rules of other days", x.run(t, 4), 0);
        x.bars(1, 4, 3, 3);
        check.due("a rule of another area", x.run(t, 4), 0);
        x.bars(0, 4, 3, 3);
        check.due("a rule", x.run(t, 4), 1);
        x.bars(0, 4, 0, 400);
        check.due("two rules", x.run(t, 4), 1);
    }

    private static void dueNotFast(Check check) {
        check.sentence("COUNTS if it is not FAST");
        AreaCrossings x = Check.barred(0, 0, 10, 0, 10, 10, 0, 10);
        // Ten units in 36 seconds are 1000 units an hour.
        int t = into(x, 0, 36);
        check.due("no speed", x.run(t, 0), 1);
        x.speed(0, 1001);
        check.due("slower", x.run(t, 0), 1);
        x.speed(0, 1000);
        check.due("as fast", x.run(t, 0), 0);
        x.speed(0, 999);
        check.due("faster", x.run(t, 0), 0);
        x.speed(0, 0);
        check.due("no speed any more", x.run(t, 0), 1);
    }

    private static void dueSpeeds(Check check) {
        check.sentence("an AREA may have a SPEED in units an hour, 1 .. 100,000");
        long[] values = {-2, -1, 1, 2, 3600, 99_999, 100_000, 100_001, 100_002};
        for (long least : values) {
            boolean is = least >= 1 && least <= 100_000;
            AreaCrossings x = Check.barred(0, 0, 10, 0, 10, 10, 0, 10);
            check.due("speed(0, " + least + ")", x.speed(0, least), is);
            // 566 units in a second are faster than any.
            int t = Check.path(x, 0, -200, -200, 1, 200, 200);
            check.due("fast", x.run(t, 0), is ? 0 : 2);
        }
    }

    /** A unit in so many seconds, and the speeds just below, at and just above what that is an hour. */
    private static void dueAsFast(Check check) {
        check.sentence("a PIECE that is as fast, or faster, is FAST there");
        long[] lengths = {1, 2, 3, 7, 36, 60, 3599, 3600};
        for (long seconds : lengths) {
            AreaCrossings x = Check.barred(0, 0, 10, 0, 10, 10, 0, 10);
            int t = Check.path(x, 0, 5, 5, seconds, 6, 5);
            long cut = 3600 / seconds;
            x.speed(0, cut);
            check.due(seconds + " seconds, speed " + cut, x.run(t, 0), 0);
            x.speed(0, cut + 1);
            check.due(seconds + " seconds, speed " + (cut + 1), x.run(t, 0), 1);
        }
    }

    private static void dueAsFastSlanted(Check check) {
        check.sentence("a PIECE that is as fast, or faster, is FAST there: slanted");
        AreaCrossings x = Check.barred(0, 0, 20, 0, 20, 20, 0, 20);
        // 3, 4 in a second is 5 units.
        int fast = Check.path(x, 0, 1, 1, 1, 4, 5);
        x.speed(0, 18_000);
        check.due("as fast", x.run(fast, 0), 0);
        x.speed(0, 18_001);
        check.due("slower", x.run(fast, 0), 1);
        // 1, 1 in a second is 5091.17 units an hour.
        int slanted = Check.path(x, 0, 1, 2, 1, 2, 1);
        x.speed(0, 5091);
        check.due("a little faster", x.run(slanted, 0), 0);
        x.speed(0, 5092);
        check.due("a little slower", x.run(slanted, 0), 1);
        // The same in an hour is more than one unit, and less than two.
        int slow = Check.path(x, 0, 2, 2, 3600, 1, 1);
        x.speed(0, 1);
        check.due("faster than 1", x.run(slow, 0), 0);
        x.speed(0, 2);
        check.due("slower than 2", x.run(slow, 0), 1);
    }

    /** 100,000 units an hour are 250 in nine seconds. */
    private static void dueFastest(Check check) {
        check.sentence("a PIECE that is as fast, or faster, is FAST there: at the largest SPEED");
        AreaCrossings x = Check.barred(-200, -200, 200, -200, 200, 200, -200, 200);
        x.speed(0, 100_000);
        int t = Check.path(x, 0, -125, 0, 9, 125, 0, 18, -124, 0, 27, -124, 0, 28, 200, 200, 29, -200, -200, 3629, 200, 200);
        check.due("run", x.run(t, 0), 2);
        check.dueCrossings("as fast, slower, still, faster, faster, slower", x, "1:0+0/1 5:0+0/1");
    }

    private static void dueStandingStill(Check check) {
        check.sentence("a PIECE that is as fast, or faster, is FAST there: not one that stands still");
        AreaCrossings x = Check.barred(0, 0, 20, 0, 20, 20, 0, 20);
        x.speed(0, 1);
        check.due("a second", x.run(Check.path(x, 0, 1, 1, 1, 1, 1), 0), 1);
        check.due("an hour", x.run(Check.path(x, 0, 1, 1, 3600, 1, 1), 0), 1);
        check.due("a unit in an hour", x.run(Check.path(x, 0, 1, 1, 3600, 2, 1), 0), 0);
    }

    private static void dueFastThere(Check check) {
        check.sentence("is FAST there: in that AREA, and not in another one");
        AreaCrossings x = new AreaCrossings(3);
        for (int area = 0; area < 3; area++) {
            Check.rectangle(x, area, 0, 0, 10, 10);
            x.bars(area, 0, 0, 0);
        }
        x.speed(0, 1000);
        x.speed(1, 1001);
        check.due("run", x.run(into(x, 0, 36), 0), 2);
        check.dueCrossings("as fast in the first one alone", x, "0:1+1/2 0:2+1/2");
    }

    /** 399 units in a little more than an hour: as a gap it does not count, and is asked for as any other. */
    private static void dueAGapIsNone(Check check) {
        check.sentence("(a GAP is none)");
        AreaCrossings x = Check.barred(0, 0, 10, 0, 10, 10, 0, 10);
        int t = Check.path(x, 0, -199, 5, 3601, 200, 5, 7201, 200, 5, 10_801, 199, 5);
        for (long least = 0; least <= 398; least += 199) {
            x.speed(0, least);
            check.due("maybe with speed " + least, x.maybe(t, 0), true);
            check.due("inside with speed " + least, x.inside(0, t, 0), 0);
            check.due("run with speed " + least, x.run(t, 0), 0);
        }
    }
}
