/** Promise 10: run. */
final class Promise10RunTest {
    private static final long[] COMB = {
        0, 0, 0, 10, 2, 10, 2, 2, 4, 2, 4, 10, 6, 10, 6, 2, 8, 2, 8, 10, 10, 10, 10, 0};

    public static void main(String[] args) {
        Check check = new Check("promise 10");
        dueHowMany(check);
        dueEmpty(check);
        dueNoSuchTrack(check);
        dueNoSuchGear(check);
        dueThreeHundred(check);
        dueOneTooManyEntered(check);
        dueOneTooManyLeft(check);
        dueThroughCombs(check);
        dueAllSides(check);
        dueStayBehindMinusOne(check);
        dueStayBehindMinusTwo(check);
        dueStayBehindMinusFour(check);
        dueLastRunAlone(check);
        check.end();
    }

    private static void dueHowMany(Check check) {
        check.sentence("A RUN: how many CROSSINGS");
        AreaCrossings x = new AreaCrossings(2);
        Check.rectangle(x, 0, 0, 0, 10, 10);
        Check.corners(x, 1, 0, 0, 10, 0, 10, 10, 0, 10);
        x.bars(0, 3, 0, 400);
        x.bars(1, 3, 0, 400);
        int t = Check.path(x, 0, -5, 5, 60, 15, 5);
        for (int gear = 0; gear < 8; gear++) {
            check.due("gear " + gear, x.run(t, gear), gear == 3 ? 2 : 0);
        }
        x.run(t, 3);
        check.dueCrossings("one area there", x, "0:0+1/4 0:0-3/4");
        x.ring(1);
        check.due("the other one is there", x.run(t, 3), 4);
        check.dueCrossings("two areas there", x, "0:0+1/4 0:0-3/4 0:1+1/4 0:1-3/4");
    }

    private static void dueEmpty(Check check) {
        check.sentence("A RUN: how many CROSSINGS: none");
        AreaCrossings x = Check.barred(0, 0, 10, 0, 10, 10, 0, 10);
        x.track();
        check.due("a track without places", x.run(0, 0), 0);
        x.place(0, 0, 5, 5);
        check.due("a track with one place, in the area", x.run(0, 0), 0);
        check.due("no crossing", x.side(0), -1);
        x.place(0, 1, 5, 5);
        check.due("a track with two places", x.run(0, 0), 1);
        AreaCrossings y = new AreaCrossings(12);
        check.due("no area there", y.run(Check.path(y, 0, 0, 0, 60, 5, 5), 0), 0);
    }

    private static void dueNoSuchTrack(Check check) {
        check.sentence("-1 no such TRACK");
        AreaCrossings x = new AreaCrossings(1);
        for (int tracks = 0; tracks <= 6; tracks++) {
            check.due("behind the last of " + tracks, x.run(tracks, 0), -1);
            check.due("before the first of " + tracks, x.run(-1, 0), -1);
            x.track();
            check.due("the last", x.run(tracks, 0), tracks < 6 ? 0 : -1);
            check.due("the first", x.run(0, 0), 0);
        }
        for (int track : Check.FAR_INTS) {
            check.due("run(" + track + ")", x.run(track, 0), -1);
            check.due("run(" + track + ") without a gear", x.run(track, 8), -1);
        }
    }

    private static void dueNoSuchGear(Check check) {
        check.sentence("-2 no such GEAR");
        AreaCrossings x = new AreaCrossings(1);
        x.track();
        for (int gear = 0; gear <= 7; gear++) {
            check.due("gear " + gear, x.run(0, gear), 0);
        }
        check.due("gear 8", x.run(0, 8), -2);
        check.due("gear -1", x.run(0, -1), -2);
        for (int gear : Check.FAR_INTS) {
            check.due("gear " + gear, x.run(0, gear), -2);
        }
    }

    private static long[] movedComb(long byX, long byY) {
        long[] moved = COMB.clone();
        for (int i = 0; i + 1 < moved.length; i += 2) {
            moved[i] += byX;
            moved[i + 1] += byY;
        }
        return moved;
    }

    /** Two combs with three teeth each: a piece through both has twelve crossings. */
    private static AreaCrossings combsSideBySide() {
        AreaCrossings x = new AreaCrossings(2);
        Check.closed(x, 0, COMB);
        Check.closed(x, 1, movedComb(20, 0));
        x.bars(0, 0, 0, 0);
        x.bars(1, 0, 0, 0);
        x.track();
        return x;
    }

    private static AreaCrossings threeHundred() {
        AreaCrossings x = combsSideBySide();
        for (int i = 0; i < 26; i++) {
            x.place(0, i, i % 2 == 0 ? -5 : 35, 5);
        }
        return x;
    }

    private static void dueThreeHundred(Check check) {
        check.sentence("-4 more than 300: 300 are not");
        AreaCrossings x = threeHundred();
        check.due("run", x.run(0, 0), 300);
        check.due("the first one's piece", x.entry(0, 0), 0);
        check.due("the last one's piece", x.entry(299, 0), 24);
        check.due("the last one leaves", x.side(299), 0);
        check.due("none behind it", x.entry(300, 0), -1);
        check.due("no side behind it", x.side(300), -1);
        check.due("run again", x.run(0, 0), 300);
        x.place(0, 26, 40, 5);
        check.due("a piece more without a crossing", x.run(0, 0), 300);
    }

    private static void dueOneTooManyEntered(Check check) {
        check.sentence("-4 more than 300: 301, as one is entered");
        AreaCrossings x = threeHundred();
        x.place(0, 26, 29, 5);
        check.due("run", x.run(0, 0), -4);
        check.due("run again", x.run(0, 0), -4);
    }

    /** Behind the gap it is outside again, without having left: an uneven number. */
    private static void dueOneTooManyLeft(Check check) {
        check.sentence("-4 more than 300: 301, as one is left");
        AreaCrossings x = combsSideBySide();
        x.place(0, 0, -5, 5);
        x.place(0, 1, 1, 5);
        for (int i = 0; i < 25; i++) {
            x.place(0, 4000 + i, i % 2 == 0 ? -5 : 35, 5);
        }
        check.due("run", x.run(0, 0), 289);
        x.place(0, 4025, 35, 5);
        check.due("run with a piece more", x.run(0, 0), -4);
        check.due("289 stay", x.side(288), 0);
        check.due("and no more", x.side(289), -1);
    }

    private static void dueThroughCombs(Check check) {
        check.sentence("A RUN: how many CROSSINGS: through an AREA with three HOLES, each a comb");
        AreaCrossings x = Check.barred(0, 0, 100, 0, 100, 20, 0, 20);
        for (int i = 0; i < 3; i++) {
            check.due("comb " + i, Check.closedHole(x, 0, movedComb(50 - 20 * i, 2)), true);
        }
        check.dueRun(x, "0:0+1/12 0:0-1/6 0:0+11/60 0:0-1/5 0:0+13/60 0:0-7/30 0:0+1/4"
            + " 0:0-1/3 0:0+7/20 0:0-11/30 0:0+23/60 0:0-2/5 0:0+5/12"
            + " 0:0-1/2 0:0+31/60 0:0-8/15 0:0+11/20 0:0-17/30 0:0+7/12 0:0-11/12", 0, -10, 7, 60, 110, 7);
    }

    private static void dueAllSides(Check check) {
        check.sentence("A RUN: how many CROSSINGS: through as many SIDES as can be");
        AreaCrossings x = Fullest.made(check, 60);
        StringBuilder want = new StringBuilder();
        int many = 0;
        for (Fraction share : Fullest.shares()) {
            want.append(many == 0 ? "" : " ").append("0:0").append(many % 2 == 0 ? '+' : '-');
            want.append(share.over()).append('/').append(share.under());
            many++;
        }
        check.due("sides", many, 48);
        check.due("run", x.run(0, 0), 48);
        check.dueCrossings("run", x, want.toString());
    }

    private static AreaCrossings withOneCrossing(Check check) {
        AreaCrossings x = Check.barred(0, 0, 10, 0, 10, 10, 0, 10);
        check.dueRun(x, "0:0+1/2", 0, -5, 5, 60, 5, 5);
        return x;
    }

    private static void dueStayBehindMinusOne(Check check) {
        check.sentence("the ones before stay, as with -1");
        AreaCrossings x = withOneCrossing(check);
        check.due("no track", x.run(3, 0), -1);
        check.due("no track", x.run(-1, 0), -1);
        check.dueCrossings("kept", x, "0:0+1/2");
        Picture.dueUnchanged(check, "run(2, 0)", y -> y.run(2, 0));
        Picture.dueUnchanged(check, "run(-1, 0)", y -> y.run(-1, 0));
    }

    private static void dueStayBehindMinusTwo(Check check) {
        check.sentence("the ones before stay, as with -2");
        AreaCrossings x = withOneCrossing(check);
        check.due("no gear", x.run(0, 8), -2);
        check.due("no gear", x.run(0, -1), -2);
        check.dueCrossings("kept", x, "0:0+1/2");
        Picture.dueUnchanged(check, "run(1, 8)", y -> y.run(1, 8));
        Picture.dueUnchanged(check, "run(1, -1)", y -> y.run(1, -1));
    }

    private static void dueStayBehindMinusFour(Check check) {
        check.sentence("-4 more than 300 (the ones before stay then)");
        AreaCrossings x = threeHundred();
        x.run(0, 0);
        x.place(0, 26, 29, 5);
        check.due("one too many", x.run(0, 0), -4);
        check.due("300 stay", x.side(299), 0);
        check.due("the first one stays", x.entry(0, 1), 1);
        check.due("its denominator", x.entry(0, 2), 8);
        check.due("the last one stays", x.entry(299, 0), 24);
        check.due("no more than those", x.side(300), -1);
        int t = Check.path(x, 0, -5, 5, 60, 1, 5);
        check.due("a smaller run behind it", x.run(t, 0), 1);
        check.dueCrossings("smaller", x, "0:0+5/6");
        check.due("too many again", x.run(0, 0), -4);
        check.dueCrossings("the smaller one's stays", x, "0:0+5/6");
        AreaCrossings y = threeHundred();
        y.place(0, 26, 29, 5);
        check.due("too many as the first run", y.run(0, 0), -4);
        check.due("none stays none", y.side(0), -1);
        check.due("no entry", y.entry(0, 0), -1);
    }

    private static void dueLastRunAlone(Check check) {
        check.sentence("A RUN: its CROSSINGS stay as they are until another one");
        AreaCrossings x = withOneCrossing(check);
        x.place(0, 120, 15, 5);
        Check.rectangleHole(x, 0, 4, 4, 6, 6);
        x.speed(0, 1);
        check.dueCrossings("kept though area and track have changed", x, "0:0+1/2");
        x.speed(0, 0);
        check.due("run anew", x.run(0, 0), 4);
        check.dueCrossings("anew", x, "0:0+1/2 0:0-9/10 1:0+1/10 1:0-1/2");
        check.due("run with another gear", x.run(0, 1), 0);
        check.dueCrossings("none", x, "");
    }
}
