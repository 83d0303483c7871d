/** Promise 10: run. */
final class Promise10RunTest {
    private static final long[] COMB = {
        0, 0, 0, 10, 2, 10, 2, 2, 4, 2, 4, 10, 6, 10, 6, 2, 8, 2, 8, 10, 10, 10, 10, 0};

    public static void main(String[] args) {
        Check check = new Check();
        dueWrong(check);
        dueThrough(check);
        dueTouching(check);
        dueAlongASide(check);
        dueFromPieceToPiece(check);
        dueWhatCounts(check);
        dueDays(check);
        dueGaps(check);
        dueStandingStill(check);
        dueOrder(check);
        dueManyCuts(check);
        dueTooMany(check);
        dueOneTooMany(check);
        dueKept(check);
        check.end();
    }

    private static void dueWrong(Check check) {
        AreaCrossings x = new AreaCrossings(1);
        check.due("no track", x.run(0, 0), -1);
        check.due("no track, no gear", x.run(0, 8), -1);
        x.track();
        int[] none = {1, -1, 6, Integer.MIN_VALUE, Integer.MAX_VALUE};
        for (int track : none) {
            check.due("run(" + track + ")", x.run(track, 0), -1);
            check.due("run(" + track + ", 8)", x.run(track, 8), -1);
        }
        int[] noGear = {8, -1, Integer.MIN_VALUE, Integer.MAX_VALUE};
        for (int gear : noGear) {
            check.due("gear " + gear, x.run(0, gear), -2);
        }
        check.due("a track without places", x.run(0, 7), 0);
        x.place(0, 0, 0, 0);
        check.due("a track with one place", x.run(0, 7), 0);
    }

    private static AreaCrossings barred(long... outer) {
        AreaCrossings x = new AreaCrossings(1);
        Check.closed(x, 0, outer);
        x.bars(0, 0, 0, 400);
        return x;
    }

    private static void dueRun(Check check, AreaCrossings x, String want, long... places) {
        int t = Check.path(x, places);
        int crossings = want.isEmpty() ? 0 : want.split(" ").length;
        check.due("run that is due " + want, x.run(t, 0), crossings);
        check.dueCrossings("run", x, want);
    }

    private static void dueThrough(Check check) {
        AreaCrossings x = barred(0, 0, 10, 0, 10, 10, 0, 10);
        Check.rectangleHole(x, 0, 3, 3, 7, 7);
        dueRun(check, x, "0:0+1/3 0:0-13/30 0:0+17/30 0:0-2/3", 0, -10, 5, 60, 20, 5);
        dueRun(check, x, "0:0+1/3 0:0-2/3", 0, -10, 1, 60, 20, 1);
        dueRun(check, x, "0:0+0/1 0:0-2/7 0:0+6/7", 0, 1, 4, 60, 8, 4);
        dueRun(check, x, "0:0+0/1", 0, 1, 1, 60, 2, 9);
        dueRun(check, x, "", 0, 4, 4, 60, 6, 6);
        dueRun(check, x, "", 0, -5, 11, 60, 20, 12);
        AreaCrossings wide = barred(-200, -200, 199, 200, 200, 199);
        dueRun(check, wide, "0:0+159600/319201 0:0-200/399", 0, -200, 200, 60, 200, -199);
    }

    private static void dueTouching(Check check) {
        AreaCrossings x = barred(0, 0, 10, 0, 10, 10, 0, 10);
        Check.rectangleHole(x, 0, 3, 3, 7, 7);
        dueRun(check, x, "0:0+1/2 0:0-1/2", 0, -5, 5, 60, 5, -5);
        dueRun(check, x, "0:0+1/1", 0, -5, 5, 60, 0, 5);
        dueRun(check, x, "0:0+0/1 0:0-0/1", 0, 0, 5, 60, -5, 5);
        // Past a hole's corner, in the area on both sides of it.
        dueRun(check, x, "0:0+0/1", 0, 1, 5, 60, 5, 1);
        // Across a hole from corner to corner.
        dueRun(check, x, "0:0+0/1 0:0-1/4 0:0+3/4", 0, 1, 1, 60, 9, 9);
        AreaCrossings notched = barred(0, 0, 10, 0, 10, 10, 5, 5, 0, 10);
        dueRun(check, notched, "0:0+0/1", 0, 1, 5, 60, 9, 5);
        dueRun(check, notched, "0:0+2/15 0:0-4/15 0:0+2/3 0:0-4/5", 0, -2, 8, 60, 13, 8);
        AreaCrossings pointed = barred(0, 0, 4, 6, 8, 0, 8, 6, 4, 7, 0, 6);
        dueRun(check, pointed, "0:0+1/6 0:0-1/6 0:0+5/6 0:0-5/6", 0, -2, 0, 60, 10, 0);
    }

    private static void dueAlongASide(Check check) {
        AreaCrossings x = barred(0, 0, 10, 0, 10, 10, 0, 10);
        dueRun(check, x, "0:0+1/4 0:0-1/2", 0, 20, 10, 60, -20, 10);
        dueRun(check, x, "0:0+0/1 0:0-1/2", 0, 0, 2, 60, 0, 18);
        dueRun(check, x, "0:0+0/1", 0, 0, 2, 60, 0, 10);
        dueRun(check, x, "", 0, -5, 0, 60, -1, 0);
        AreaCrossings stairs = barred(0, 0, 20, 0, 20, 10, 10, 10, 10, 5, 0, 5);
        dueRun(check, stairs, "0:0+1/4 0:0-3/4", 0, -10, 5, 60, 30, 5);
        dueRun(check, stairs, "0:0+1/4 0:0-3/4", 0, 10, 15, 60, 10, -5);
        AreaCrossings battlements = barred(0, 0, 12, 0, 12, 8, 8, 8, 8, 4, 4, 4, 4, 8, 0, 8);
        dueRun(check, battlements, "0:0+1/5 0:0-2/5 0:0+3/5 0:0-4/5", 0, -4, 8, 60, 16, 8);
        dueRun(check, battlements, "0:0+1/5 0:0-4/5", 0, -4, 4, 60, 16, 4);
    }

    private static void dueFromPieceToPiece(Check check) {
        AreaCrossings x = barred(0, 0, 10, 0, 10, 10, 0, 10);
        dueRun(check, x, "0:0+1/2 2:0-1/2", 0, -5, 5, 60, 5, 5, 120, 5, 6, 180, 15, 6);
        dueRun(check, x, "0:0+1/1", 0, -5, 5, 60, 0, 5, 120, 5, 5);
        dueRun(check, x, "0:0+1/1 1:0-0/1", 0, -5, 5, 60, 0, 5, 120, -5, 5);
        dueRun(check, x, "0:0+0/1 1:0-0/1", 0, 5, 5, 60, 10, 5, 120, 15, 5);
        dueRun(check, x, "0:0+1/2 2:0-0/1", 0, 5, 15, 60, 5, 5, 120, 10, 5, 180, 11, 5);
        // Out by one corner and back by another one.
        dueRun(check, x, "0:0+0/1 1:0-0/1 2:0+1/1", 0, 9, 9, 60, 10, 10, 120, 10, 11, 180, 0, 10, 240, 0, 9);
    }

    private static void dueWhatCounts(Check check) {
        AreaCrossings x = new AreaCrossings(2);
        Check.rectangle(x, 0, 0, 0, 10, 10);
        Check.corners(x, 1, 0, 0, 10, 0, 10, 10, 0, 10);
        x.bars(0, 3, 0, 400);
        x.bars(1, 3, 0, 400);
        int t = Check.path(x, 0, -5, 5, 60, 15, 5);
        for (int gear = 0; gear < 8; gear++) {
            check.due("gear " + gear, x.run(t, gear), gear == 3 ? 2 : 0);
        }
        x.run(t, 3);
        check.dueCrossings("one area there", x, "0:0+1/4 0:0-3/4");
        x.ring(1);
        check.due("the other one is there", x.run(t, 3), 4);
        check.dueCrossings("two areas there", x, "0:0+1/4 0:0-3/4 0:1+1/4 0:1-3/4");
    }

    /** The day of a piece is that of its first second; a piece behind one that did not count enters anew. */
    private static void dueDays(Check check) {
        AreaCrossings x = new AreaCrossings(1);
        Check.rectangle(x, 0, 0, 0, 10, 10);
        x.bars(0, 0, 1, 1);
        int t = Check.path(x, 86_300, 1, 1, 86_399, 2, 2, 86_400, 3, 3, 86_410, 4, 4,
            172_799, 5, 5, 172_800, 6, 6, 172_810, 7, 7);
        check.due("run", x.run(t, 0), 2);
        check.dueCrossings("days", x, "2:0+0/1 4:0+0/1");
        x.bars(0, 0, 0, 0);
        check.due("run with day 0", x.run(t, 0), 2);
        check.dueCrossings("days", x, "0:0+0/1 4:0+0/1");
        x.bars(0, 0, 0, 400);
        int late = Check.path(x, 34_646_398, 1, 1, 34_646_399, 2, 2, 34_646_400, 3, 3, 40_000_000, 3, 3);
        check.due("day 400 and day 401", x.run(late, 0), 1);
        check.dueCrossings("late", x, "0:0+0/1");
        int day401 = Check.path(x, 34_646_400, 1, 1, 34_646_401, 2, 2);
        check.due("day 401", x.run(day401, 0), 0);
    }

    private static void dueGaps(Check check) {
        AreaCrossings x = barred(0, 0, 10, 0, 10, 10, 0, 10);
        dueRun(check, x, "0:0+1/4 0:0-3/4", 0, -5, 5, 3600, 15, 5);
        dueRun(check, x, "", 0, -5, 5, 3601, 15, 5);
        dueRun(check, x, "0:0+0/1 2:0+0/1 2:0-1/2", 0, 1, 1, 60, 5, 5, 3661, 5, 5, 3700, 15, 5);
        dueRun(check, x, "1:0+0/1 1:0-0/1", 0, 5, 5, 3601, 10, 5, 3700, 15, 5);
    }

    private static void dueStandingStill(Check check) {
        AreaCrossings x = barred(0, 0, 10, 0, 10, 10, 0, 10);
        Check.rectangleHole(x, 0, 3, 3, 7, 7);
        dueRun(check, x, "0:0+0/1", 0, 1, 1, 60, 1, 1);
        dueRun(check, x, "0:0+0/1", 0, 10, 10, 60, 10, 10);
        dueRun(check, x, "", 0, 5, 5, 60, 5, 5);
        dueRun(check, x, "", 0, 50, 5, 60, 50, 5);
        dueRun(check, x, "0:0+1/1 2:0-0/1", 0, 15, 5, 60, 10, 5, 120, 10, 5, 180, 15, 5);
    }

    private static void dueOrder(Check check) {
        AreaCrossings x = new AreaCrossings(3);
        Check.rectangle(x, 0, 6, 0, 8, 4);
        Check.rectangle(x, 2, 2, 0, 4, 4);
        x.bars(2, 0, 0, 0);
        x.bars(0, 0, 0, 0);
        dueRun(check, x, "0:0+3/5 0:0-4/5 0:2+1/5 0:2-2/5 1:0+1/5 1:0-2/5 1:2+3/5 1:2-4/5",
            0, 0, 2, 60, 10, 2, 120, 0, 2);
    }

    private static AreaCrossings twoCombs() {
        AreaCrossings x = new AreaCrossings(2);
        Check.closed(x, 0, COMB);
        Check.closed(x, 1, COMB);
        x.bars(0, 0, 0, 0);
        x.bars(1, 0, 0, 0);
        return x;
    }

    /** Each piece crosses two combs with three teeth each: twelve crossings. */
    private static void dueTooMany(Check check) {
        AreaCrossings x = twoCombs();
        x.track();
        for (int i = 0; i < 26; i++) {
            x.place(0, i, i % 2 == 0 ? -5 : 15, 5);
        }
        check.due("25 pieces", x.run(0, 0), 300);
        check.due("the last one's piece", x.entry(299, 0), 24);
        check.due("none behind it", x.entry(300, 0), -1);
        x.place(0, 26, 0, 5);
        check.due("one more", x.run(0, 0), -4);
        check.due("the ones before stay", x.entry(299, 0), 24);
        check.due("the last side", x.side(299), 0);
        check.due("as many", x.side(300), -1);
        int t = Check.path(x, 0, -5, 5, 60, 1, 5);
        check.due("a smaller run behind it", x.run(t, 0), 2);
        check.dueCrossings("smaller", x, "0:0+5/6 0:1+5/6");
        check.due("too many again", x.run(0, 0), -4);
        check.dueCrossings("the ones before stay", x, "0:0+5/6 0:1+5/6");
    }

    private static long[] movedComb(long byX, long byY) {
        long[] moved = COMB.clone();
        for (int i = 0; i + 1 < moved.length; i += 2) {
            moved[i] += byX;
            moved[i + 1] += byY;
        }
        return moved;
    }

    /** One piece through an area with as many holes as can be, of as many corners as can be. */
    private static void dueManyCuts(Check check) {
        AreaCrossings x = barred(0, 0, 100, 0, 100, 20, 0, 20);
        for (int i = 0; i < 3; i++) {
            check.due("comb " + i, x.hole(0) && Check.closed(x, 0, movedComb(50 - 20 * i, 2)), true);
        }
        dueRun(check, x, "0:0+1/12 0:0-1/6 0:0+11/60 0:0-1/5 0:0+13/60 0:0-7/30 0:0+1/4"
            + " 0:0-1/3 0:0+7/20 0:0-11/30 0:0+23/60 0:0-2/5 0:0+5/12"
            + " 0:0-1/2 0:0+31/60 0:0-8/15 0:0+11/20 0:0-17/30 0:0+7/12 0:0-11/12", 0, -10, 7, 60, 110, 7);
    }

    private static AreaCrossings combsSideBySide() {
        AreaCrossings x = new AreaCrossings(2);
        Check.closed(x, 0, COMB);
        Check.closed(x, 1, movedComb(20, 0));
        x.bars(0, 0, 0, 0);
        x.bars(1, 0, 0, 0);
        x.track();
        return x;
    }

    private static void dueOneTooMany(Check check) {
        AreaCrossings x = combsSideBySide();
        for (int i = 0; i < 26; i++) {
            x.place(0, i, i % 2 == 0 ? -5 : 35, 5);
        }
        check.due("25 pieces", x.run(0, 0), 300);
        x.place(0, 26, 29, 5);
        check.due("301, as one enters", x.run(0, 0), -4);
        check.due("300 stay", x.side(299), 0);
        AreaCrossings y = combsSideBySide();
        y.place(0, 0, -5, 5);
        y.place(0, 1, 1, 5);
        // Behind the gap it is outside again, without having left.
        for (int i = 0; i < 25; i++) {
            y.place(0, 4000 + i, i % 2 == 0 ? -5 : 35, 5);
        }
        check.due("289", y.run(0, 0), 289);
        y.place(0, 4025, 35, 5);
        check.due("301, as one leaves", y.run(0, 0), -4);
        check.due("289 stay", y.side(289), -1);
    }

    private static void dueKept(Check check) {
        AreaCrossings x = barred(0, 0, 10, 0, 10, 10, 0, 10);
        int t = Check.path(x, 0, -5, 5, 60, 5, 5);
        check.due("run", x.run(t, 0), 1);
        check.due("no track", x.run(3, 0), -1);
        check.dueCrossings("kept behind -1", x, "0:0+1/2");
        check.due("no gear", x.run(t, 8), -2);
        check.dueCrossings("kept behind -2", x, "0:0+1/2");
        x.place(t, 120, 15, 5);
        Check.rectangleHole(x, 0, 4, 4, 6, 6);
        check.dueCrossings("kept though area and track have changed", x, "0:0+1/2");
        check.due("run anew", x.run(t, 0), 4);
        check.dueCrossings("anew", x, "0:0+1/2 0:0-9/10 1:0+1/10 1:0-1/2");
        check.due("run with another gear", x.run(t, 1), 0);
        check.dueCrossings("none", x, "");
    }
}
