/** Promise 15: buffer. */
final class Promise15BufferTest {
    public static void main(String[] args) {
        Check check = new Check("promise 15");
        dueIn(check);
        dueSoManyUnits(check);
        dueFromACorner(check);
        dueFarAway(check);
        dueFromASlantedSide(check);
        dueFromEachSide(check);
        dueFromAHole(check);
        dueLargest(check);
        dueAllTracks(check);
        dueFull(check);
        dueNotThere(check);
        dueNoSuchNumber(check);
        dueBothWrong(check);
        check.end();
    }

    /** Of a place and the square 0 .. 10. */
    private static int near(long metres, long atX, long atY) {
        AreaCrossings x = new AreaCrossings(1);
        Check.rectangle(x, 0, 0, 0, 10, 10);
        Check.path(x, 0, atX, atY);
        return x.buffer(0, metres);
    }

    private static void dueIn(Check check) {
        check.sentence("How many PLACES lie in an AREA");
        check.due("in it", near(0, 5, 5), 1);
        check.due("on a side", near(0, 10, 5), 1);
        check.due("on a corner", near(0, 10, 10), 1);
        check.due("beside it", near(0, 11, 5), 0);
        check.due("on a side's line", near(0, 11, 10), 0);
        check.due("beyond a corner", near(0, 11, 11), 0);
        AreaCrossings x = new AreaCrossings(1);
        Check.rectangle(x, 0, -200, -200, 200, 200);
        Check.path(x, 0, 0, 0);
        check.due("in it, 200 away from each side", x.buffer(0, 0), 1);
    }

    private static void dueSoManyUnits(Check check) {
        check.sentence("or so many units, or fewer, away from one of its SIDES");
        long[] distances = {1, 2, 5, 100, 189, 190};
        for (long metres : distances) {
            for (long away = metres - 1; away <= metres + 1 && away <= 190; away++) {
                int want = away <= metres ? 1 : 0;
                check.due(away + " right, " + metres, near(metres, 10 + away, 5), want);
                check.due(away + " left, " + metres, near(metres, -away, 5), want);
                check.due(away + " above, " + metres, near(metres, 5, 10 + away), want);
                check.due(away + " below, " + metres, near(metres, 5, -away), want);
            }
        }
    }

    private static void dueFromACorner(Check check) {
        check.sentence("or so many units, or fewer, away: from a CORNER, straight");
        check.due("3, 4 from a corner", near(5, 13, 14), 1);
        check.due("3, 4 from a corner, 4", near(4, 13, 14), 0);
        check.due("4, 4 from a corner", near(5, 14, 14), 0);
        check.due("3, 5 from a corner", near(5, 13, 15), 0);
        check.due("-3, -4 from a corner", near(5, -3, -4), 1);
        check.due("-4, -4 from a corner", near(5, -4, -4), 0);
        check.due("-4, -4 from a corner, 6", near(6, -4, -4), 1);
        check.due("4, -3 from a corner", near(5, 14, -3), 1);
        check.due("-3, 4 from a corner", near(5, -3, 14), 1);
        int[][] beyond = {{-1, -1}, {11, -1}, {11, 11}, {-1, 11}};
        for (int[] place : beyond) {
            check.due("1, 1 from a corner, 1", near(1, place[0], place[1]), 0);
            check.due("1, 1 from a corner, 2", near(2, place[0], place[1]), 1);
        }
    }

    /** A square that is far from the line x = y, and places on that line. */
    private static void dueFarAway(Check check) {
        check.sentence("or so many units, or fewer, away: each way by itself");
        long[][] squares = {{50, 0}, {0, 50}, {-50, 0}, {0, -50}};
        for (long[] corner : squares) {
            AreaCrossings x = new AreaCrossings(1);
            Check.rectangle(x, 0, corner[0], corner[1], corner[0] + 10, corner[1] + 10);
            Check.path(x, 0, 0, 0, 1, 10, 10, 2, 0, 10, 3, 10, 0);
            check.due("none is 39 away", x.buffer(0, 39), 0);
            check.due("two are 40 away", x.buffer(0, 40), 2);
            check.due("two are 50 away", x.buffer(0, 50), 4);
        }
    }

    private static void dueFromASlantedSide(Check check) {
        check.sentence("or so many units, or fewer, away: from a slanted SIDE");
        AreaCrossings x = new AreaCrossings(1);
        Check.closed(x, 0, 0, 0, 10, 0, 0, 10);
        // 7 / sqrt 2, 4.95 units, away from the line x + y = 10.
        Check.path(x, 0, 9, 8);
        check.due("4.95 away, 5", x.buffer(0, 5), 1);
        check.due("4.95 away, 4", x.buffer(0, 4), 0);
        AreaCrossings y = new AreaCrossings(1);
        Check.closed(y, 0, -200, -200, 200, 200, 199, 200);
        Check.path(y, 0, 200, -200);
        check.due("282.8 away, 283", y.buffer(0, 283), 1);
        check.due("282.8 away, 282", y.buffer(0, 282), 0);
        AreaCrossings z = new AreaCrossings(1);
        Check.closed(z, 0, 0, 0, 40, 30, 0, 30);
        Check.path(z, 0, 23, 11);
        check.due("exactly 5 away, 5", z.buffer(0, 5), 1);
        check.due("exactly 5 away, 4", z.buffer(0, 4), 0);
    }

    /** The last one, on the left, goes from the last corner to the first. */
    private static void dueFromEachSide(Check check) {
        check.sentence("away from one of its SIDES: each of them");
        AreaCrossings x = new AreaCrossings(1);
        Check.closed(x, 0, 0, 0, 100, 0, 100, 100, 0, 100);
        Check.path(x, 0, 50, -7, 1, 108, 50, 2, 50, 109, 3, -10, 50);
        for (int metres = 5; metres <= 11; metres++) {
            check.due(metres + " units", x.buffer(0, metres), Math.max(0, Math.min(4, metres - 6)));
        }
    }

    private static void dueFromAHole(Check check) {
        check.sentence("away from one of its SIDES: those of its HOLES too");
        AreaCrossings x = new AreaCrossings(1);
        Check.rectangle(x, 0, 0, 0, 40, 40);
        Check.rectangleHole(x, 0, 10, 10, 30, 30);
        Check.path(x, 0, 20, 20, 1, 12, 20, 2, 30, 30, 3, 5, 5);
        check.due("0", x.buffer(0, 0), 2);
        check.due("1", x.buffer(0, 1), 2);
        check.due("2", x.buffer(0, 2), 3);
        check.due("9", x.buffer(0, 9), 3);
        check.due("10", x.buffer(0, 10), 4);
    }

    private static void dueLargest(Check check) {
        check.sentence("so many units (0 .. 400): the largest number");
        AreaCrossings x = new AreaCrossings(1);
        Check.closed(x, 0, -120, -160, -121, -160, -120, -161);
        // 240, 320 away from the first corner is 400; then one unit more, and one less.
        Check.path(x, 0, 120, 160, 1, 121, 160, 2, 120, 161, 3, 200, 200, 4, 119, 160);
        check.due("400", x.buffer(0, 400), 2);
        check.due("399", x.buffer(0, 399), 0);
    }

    private static void dueAllTracks(Check check) {
        check.sentence("PLACES of all TRACKS");
        AreaCrossings x = new AreaCrossings(1);
        Check.rectangle(x, 0, 0, 0, 10, 10);
        check.due("no track", x.buffer(0, 400), 0);
        x.track();
        check.due("a track without places", x.buffer(0, 400), 0);
        x.place(0, 0, 5, 5);
        x.place(0, 1, 5, 5);
        x.place(0, 9000, 50, 50);
        for (int i = 1; i < 6; i++) {
            check.due("tracks, " + i, x.buffer(0, 0), 2 * i);
            Check.path(x, 0, 5, 5, 1, 5, 5, 9000, 50, 50);
        }
        check.due("six tracks", x.buffer(0, 0), 12);
        check.due("with those that are further away", x.buffer(0, 57), 18);
        check.due("without them", x.buffer(0, 56), 12);
    }

    private static void dueFull(Check check) {
        check.sentence("PLACES of all TRACKS: 30 of each of six");
        AreaCrossings x = new AreaCrossings(1);
        Check.rectangle(x, 0, 0, 0, 10, 10);
        for (int track = 0; track < 6; track++) {
            x.track();
            for (int i = 0; i < 30; i++) {
                x.place(track, i, track, 11);
            }
        }
        check.due("all", x.buffer(0, 1), 180);
        check.due("none", x.buffer(0, 0), 0);
    }

    private static void dueNotThere(Check check) {
        check.sentence("-1 no such AREA that is there");
        AreaCrossings x = new AreaCrossings(3);
        Check.rectangle(x, 0, 0, 0, 10, 10);
        Check.corners(x, 1, 0, 0, 10, 0, 10, 10, 0, 10);
        int[] near = {1, 2, 3, -1, 12};
        for (int area : near) {
            check.due("buffer(" + area + ")", x.buffer(area, 5), -1);
        }
        for (int area : Check.FAR_INTS) {
            check.due("buffer(" + area + ")", x.buffer(area, 5), -1);
        }
        check.due("buffer(0)", x.buffer(0, 5), 0);
        x.ring(1);
        check.due("there now", x.buffer(1, 5), 0);
    }

    private static void dueNoSuchNumber(Check check) {
        check.sentence("else -2 the number");
        AreaCrossings x = new AreaCrossings(1);
        Check.rectangle(x, 0, 0, 0, 10, 10);
        Check.path(x, 0, 5, 5);
        check.due("0", x.buffer(0, 0), 1);
        check.due("400", x.buffer(0, 400), 1);
        check.due("-1", x.buffer(0, -1), -2);
        check.due("-2", x.buffer(0, -2), -2);
        check.due("401", x.buffer(0, 401), -2);
        check.due("402", x.buffer(0, 402), -2);
        for (long metres : Check.WRAPPED) {
            check.due("" + metres, x.buffer(0, metres), -2);
        }
    }

    private static void dueBothWrong(Check check) {
        check.sentence("-1 no such AREA that is there, else -2");
        AreaCrossings x = new AreaCrossings(1);
        int[] areas = {0, 1, -1, Integer.MIN_VALUE, Integer.MAX_VALUE};
        long[] numbers = {-1, 401, Long.MIN_VALUE, Long.MAX_VALUE};
        for (int area : areas) {
            for (long metres : numbers) {
                check.due("buffer(" + area + ", " + metres + ")", x.buffer(area, metres), -1);
            }
        }
    }
}
