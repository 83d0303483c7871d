/** Promise 13: inside. */
final class Promise13InsideTest {
    public static void main(String[] args) {
        Check check = new Check("promise 13");
        dueHowLong(check);
        dueNoMatter(check);
        dueCut(check);
        dueCutOfOneStretch(check);
        dueCutToNothing(check);
        dueFinest(check);
        dueAllSides(check);
        dueGap(check);
        dueAllTogether(check);
        dueNoneTogether(check);
        dueNotThere(check);
        dueNoSuchTrack(check);
        dueNoSuchPiece(check);
        check.end();
    }

    private static void dueHowLong(Check check) {
        check.sentence("How many thousandths of a second a PIECE of a TRACK is in an AREA");
        AreaCrossings x = new AreaCrossings(1);
        Check.rectangle(x, 0, 0, 0, 10, 10);
        Check.rectangleHole(x, 0, 3, 3, 7, 7);
        int t = Check.path(x, 0, -10, 5, 60, 20, 5, 120, 20, 10, 180, -20, 10, 200, 5, 5, 260, 5, 5,
            320, 10, 10, 380, 10, 10, 440, 20, 10, 500, 7, 5, 560, 3, 5, 620, 3, 7);
        check.due("through a hole", x.inside(0, t, 0), 12_000);
        check.due("outside", x.inside(0, t, 1), 0);
        check.due("along a side", x.inside(0, t, 2), 15_000);
        check.due("into a hole", x.inside(0, t, 3), 2_400);
        check.due("still in a hole", x.inside(0, t, 4), 0);
        check.due("out of a hole to a corner", x.inside(0, t, 5), 36_000);
        check.due("still on a corner", x.inside(0, t, 6), 60_000);
        check.due("away from a corner", x.inside(0, t, 7), 0);
        check.due("from outside to a hole's ring", x.inside(0, t, 8), 60_000 * 3 / 13);
        check.due("across a hole from ring to ring", x.inside(0, t, 9), 0);
        check.due("along a hole's side", x.inside(0, t, 10), 60_000);
    }

    private static void dueNoMatter(Check check) {
        check.sentence("no matter what it bars, or how fast it is");
        AreaCrossings x = new AreaCrossings(1);
        Check.rectangle(x, 0, 0, 0, 10, 10);
        int t = Check.path(x, 0, 1, 5, 1, 9, 5, 39_999_999, 1, 5, 40_000_000, 2, 5);
        check.due("without a rule", x.inside(0, t, 0), 1000);
        check.due("on a day behind the last", x.inside(0, t, 2), 1000);
        x.speed(0, 1);
        check.due("fast", x.inside(0, t, 0), 1000);
        x.bars(0, 0, 5, 5);
        check.due("with a rule of another day", x.inside(0, t, 0), 1000);
        x.bars(0, 0, 0, 0);
        check.due("with a rule of its day", x.inside(0, t, 0), 1000);
    }

    /** Three teeth of 66 2/3 thousandths of a second each. */
    private static void dueCut(Check check) {
        check.sentence("of each stretch of it cut: each, and not their sum");
        AreaCrossings x = new AreaCrossings(1);
        Check.closed(x, 0, 0, 0, 0, 10, 2, 10, 2, 2, 4, 2, 4, 10, 6, 10, 6, 2, 8, 2, 8, 10, 10, 10, 10, 0);
        int t = Check.path(x, 0, -5, 5, 1, 25, 5, 2, -5, 5);
        check.due("three teeth", x.inside(0, t, 0), 198);
        check.due("three teeth, the other way", x.inside(0, t, 1), 198);
        check.due("both pieces", x.inside(0, t, -1), 396);
    }

    /** From 1 / 7 to 6 / 7: 714 2/7 thousandths, whether the way touches a ring or not. */
    private static void dueCutOfOneStretch(Check check) {
        check.sentence("of each stretch of it cut: its length, and not its ends");
        AreaCrossings x = new AreaCrossings(1);
        Check.closed(x, 0, 0, 0, 5, 0, 5, 10, 3, 5, 2, 10, 0, 10);
        int t = Check.path(x, 0, -1, 5, 1, 6, 5, 4000, -1, 4, 4001, 6, 4, 8000, -1, 1, 8001, 6, 1);
        check.due("past a notch", x.inside(0, t, 0), 714);
        check.due("below it", x.inside(0, t, 2), 714);
        check.due("and again", x.inside(0, t, 4), 714);
        AreaCrossings y = new AreaCrossings(1);
        Check.rectangle(y, 0, 2, 0, 3, 9);
        // From 2 / 3 to 1 and from 1 / 3 to 2 / 3: 333 1/3 thousandths each.
        int u = Check.path(y, 0, 0, 5, 1, 3, 5, 4000, 1, 5, 4001, 4, 5, 8000, 3, 5, 8001, 0, 5);
        check.due("to its end", y.inside(0, u, 0), 333);
        check.due("in its middle", y.inside(0, u, 2), 333);
        check.due("from its beginning", y.inside(0, u, 4), 333);
    }

    private static void dueCutToNothing(Check check) {
        check.sentence("of each stretch of it cut: a stretch of less than a thousandth is 0");
        AreaCrossings x = new AreaCrossings(1);
        // At y = -190 the triangle is 1 / 40 of a unit wide; the piece is 400 units long: 1 / 16 of a thousandth.
        Check.closed(x, 0, 0, -200, 1, 200, 0, 200);
        int t = Check.path(x, 0, -200, -190, 1, 200, -190, 3601, -200, -190);
        check.due("a stretch of less than a thousandth", x.inside(0, t, 0), 0);
        check.due("of 225 thousandths", x.inside(0, t, 1), 225);
        int touch = Check.path(x, 0, -1, -200, 3600, 1, -200);
        check.due("a place alone", x.inside(0, touch, 0), 0);
    }

    private static void dueFinest(Check check) {
        check.sentence("of each stretch of it cut: with the finest fractions, and the longest PIECE");
        AreaCrossings x = new AreaCrossings(1);
        Check.closed(x, 0, -200, -200, 199, 200, 200, 199);
        int t = Check.path(x, 0, -200, 200, 3600, 200, -199);
        // From 159600 / 319201 to 200 / 399.
        check.due("fine fractions", x.inside(0, t, 0), 4516);
        AreaCrossings y = new AreaCrossings(1);
        Check.rectangle(y, 0, -200, -200, 200, 200);
        int far = Check.path(y, 0, -200, 200, 3600, 200, -200);
        check.due("from corner to corner", y.inside(0, far, 0), 3_600_000);
    }

    private static void dueAllSides(Check check) {
        check.sentence("of each stretch of it cut: 24 of them, as many as can be");
        AreaCrossings x = Fullest.made(check, 3599);
        long want = 0;
        int many = 0;
        Fraction begin = Fraction.ZERO;
        for (Fraction share : Fullest.shares()) {
            if (many % 2 == 1) {
                Fraction stretch = share.minus(begin).times(Fraction.of(3_599_000));
                want += stretch.over().divide(stretch.under()).longValueExact();
            }
            begin = share;
            many++;
        }
        check.due("inside", x.inside(0, 0, 0), want);
    }

    private static void dueGap(Check check) {
        check.sentence("0 for a GAP");
        AreaCrossings x = new AreaCrossings(1);
        Check.rectangle(x, 0, 0, 0, 10, 10);
        int t = Check.path(x, 0, 1, 5, 3600, 9, 5, 7201, 9, 5, 39_999_999, 1, 5);
        check.due("3600 seconds", x.inside(0, t, 0), 3_600_000);
        check.due("3601 seconds", x.inside(0, t, 1), 0);
        check.due("a long gap", x.inside(0, t, 2), 0);
        check.due("all", x.inside(0, t, -1), 3_600_000);
    }

    private static void dueAllTogether(Check check) {
        check.sentence("part -1: of all PIECES together");
        AreaCrossings x = new AreaCrossings(1);
        Check.rectangle(x, 0, 2, 0, 3, 9);
        // Each piece is 333 1/3 thousandths in the area, also cut before they are added.
        x.track();
        for (int i = 0; i < 30; i++) {
            x.place(0, i, i % 2 == 0 ? 1 : 4, 5);
        }
        check.due("all of 29", x.inside(0, 0, -1), 29 * 333);
        int one = Check.path(x, 0, 1, 5, 1, 4, 5);
        check.due("all of one", x.inside(0, one, -1), 333);
    }

    private static void dueNoneTogether(Check check) {
        check.sentence("part -1: of all PIECES together: there is none");
        AreaCrossings x = new AreaCrossings(1);
        Check.rectangle(x, 0, 0, 0, 10, 10);
        int t = x.track();
        check.due("no place", x.inside(0, t, -1), 0);
        x.place(t, 0, 5, 5);
        check.due("one place", x.inside(0, t, -1), 0);
        x.place(t, 1, 5, 5);
        check.due("two places", x.inside(0, t, -1), 1000);
    }

    private static void dueNotThere(Check check) {
        check.sentence("-1 no such AREA that is there");
        AreaCrossings x = new AreaCrossings(3);
        Check.rectangle(x, 0, 0, 0, 10, 10);
        Check.corners(x, 1, 0, 0, 10, 0, 10, 10, 0, 10);
        int t = Check.path(x, 0, 1, 1, 60, 5, 5);
        int[] near = {1, 2, 3, -1, 12};
        for (int area : near) {
            check.due("area " + area, x.inside(area, t, 0), -1);
            check.due("all in area " + area, x.inside(area, t, -1), -1);
        }
        for (int area : Check.FAR_INTS) {
            check.due("area " + area, x.inside(area, t, 0), -1);
            check.due("all in area " + area, x.inside(area, t, -1), -1);
        }
        x.ring(1);
        check.due("there now", x.inside(1, t, 0), 60_000);
        check.due("the first one", x.inside(0, t, 0), 60_000);
    }

    private static void dueNoSuchTrack(Check check) {
        check.sentence("-1 no such TRACK");
        AreaCrossings x = new AreaCrossings(1);
        Check.rectangle(x, 0, 0, 0, 10, 10);
        for (int tracks = 0; tracks <= 6; tracks++) {
            check.due("behind the last of " + tracks, x.inside(0, tracks, -1), -1);
            check.due("before the first", x.inside(0, -1, -1), -1);
            x.track();
            check.due("the last", x.inside(0, tracks, -1), tracks < 6 ? 0 : -1);
        }
        for (int track : Check.FAR_INTS) {
            check.due("track " + track, x.inside(0, track, 0), -1);
            check.due("all of track " + track, x.inside(0, track, -1), -1);
        }
    }

    private static void dueNoSuchPiece(Check check) {
        check.sentence("-1 no such PIECE");
        AreaCrossings x = new AreaCrossings(1);
        Check.rectangle(x, 0, 0, 0, 10, 10);
        x.track();
        check.due("piece 0 of no place", x.inside(0, 0, 0), -1);
        x.place(0, 0, 5, 5);
        check.due("piece 0 of one place", x.inside(0, 0, 0), -1);
        for (int places = 2; places <= 30; places++) {
            x.place(0, places, 5, 5);
            int last = places - 2;
            check.due("piece " + last + " of " + places + " places", x.inside(0, 0, last), last == 0 ? 2000 : 1000);
            check.due("piece " + (last + 1) + " of " + places + " places", x.inside(0, 0, last + 1), -1);
            check.due("piece -2", x.inside(0, 0, -2), -1);
        }
        for (int part : Check.FAR_INTS) {
            check.due("piece " + part, x.inside(0, 0, part), -1);
        }
    }
}
