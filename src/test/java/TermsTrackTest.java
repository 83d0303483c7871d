/** The terms on tracks, places, pieces and gaps. */
final class TermsTrackTest {
    private static final long DAY = 86_400;

    public static void main(String[] args) {
        Check check = new Check("terms");
        dueAtMostSix(check);
        dueUpToThirtyPlaces(check);
        dueSeconds(check);
        dueLater(check);
        duePieces(check);
        dueDayOfAPiece(check);
        dueLastDays(check);
        dueGap(check);
        dueStraightAndEvenly(check);
        check.end();
    }

    private static void dueAtMostSix(Check check) {
        check.sentence("TRACKS, at most 6, numbered from 0 on");
        AreaCrossings x = new AreaCrossings(1);
        for (int i = 0; i < 9; i++) {
            check.due("track", x.track(), i < 6 ? i : -4);
            check.due("place of track " + i, x.place(i, 0, 0, 0), i < 6);
            check.due("run of track " + i, x.run(i, 0), i < 6 ? 0 : -1);
        }
    }

    private static void dueUpToThirtyPlaces(Check check) {
        check.sentence("have up to 30 PLACES");
        AreaCrossings x = new AreaCrossings(1);
        Check.rectangle(x, 0, 0, 0, 5, 5);
        for (int track = 0; track < 6; track++) {
            x.track();
            for (int i = 0; i < 33; i++) {
                check.due("place " + i + " of track " + track, x.place(track, i, 1, 1), i < 30);
            }
            check.due("places", x.buffer(0, 0), 30 * (track + 1));
        }
    }

    private static void dueSeconds(Check check) {
        check.sentence("each with a SECOND, 0 .. 40,000,000");
        long[] seconds = {-3, -2, -1, 0, 1, 2, 39_999_998, 39_999_999, 40_000_000, 40_000_001, 40_000_002};
        AreaCrossings row = new AreaCrossings(1);
        row.track();
        for (long second : seconds) {
            boolean is = second >= 0 && second <= 40_000_000;
            AreaCrossings x = new AreaCrossings(1);
            x.track();
            check.due("first place at " + second, x.place(0, second, 0, 0), is);
            check.due("place behind others at " + second, row.place(0, second, 0, 0), is);
        }
    }

    private static void dueLater(Check check) {
        check.sentence("later than the one before");
        for (long by = -3; by <= 3; by++) {
            AreaCrossings x = new AreaCrossings(1);
            x.track();
            x.place(0, 20_000_000, 0, 0);
            check.due("second place " + by + " later", x.place(0, 20_000_000 + by, 0, 0), by > 0);
            x.place(0, 20_000_010, 0, 0);
            check.due("third place " + by + " later", x.place(0, 20_000_010 + by, 0, 0), by > 0);
        }
    }

    private static void duePieces(Check check) {
        check.sentence("Between two PLACES is a PIECE, numbered from 0 on");
        AreaCrossings x = Check.barred(0, 0, 10, 0, 10, 10, 0, 10);
        x.track();
        for (int places = 0; places <= 30; places++) {
            int pieces = Math.max(0, places - 1);
            check.due("crossings of " + pieces + " pieces", x.run(0, 0), pieces);
            check.due("the last piece that has one", pieces == 0 ? 0 : x.entry(pieces - 1, 0), Math.max(0, pieces - 1));
            check.due("the piece behind it", x.inside(0, 0, pieces), -1);
            // From the place outside to the one inside and back.
            x.place(0, places, places % 2 == 0 ? -5 : 5, 5);
        }
    }

    private static void dueDayOfAPiece(Check check) {
        check.sentence("its DAY is its first SECOND divided by 86,400, cut");
        int[] days = {0, 1, 2, 57, 399, 400};
        for (int day : days) {
            AreaCrossings x = new AreaCrossings(1);
            Check.rectangle(x, 0, 0, 0, 10, 10);
            x.bars(0, 0, day, day);
            long first = day * DAY;
            dueCounts(check, x, first, true);
            dueCounts(check, x, first + DAY / 2, true);
            dueCounts(check, x, first + DAY - 1, true);
            dueCounts(check, x, first + DAY, false);
            if (day > 0) {
                dueCounts(check, x, first - 1, false);
            }
        }
    }

    /** A piece of an hour that begins at that second; where it ends does not matter. */
    private static void dueCounts(Check check, AreaCrossings x, long second, boolean want) {
        int t = Check.path(x, second, -5, 5, second + 3600, 15, 5);
        check.due("piece from second " + second, x.run(t, 0), want ? 2 : 0);
    }

    private static void dueLastDays(Check check) {
        check.sentence("its DAY is its first SECOND divided by 86,400: it may be behind the last DAY of a RULE");
        AreaCrossings x = Check.barred(0, 0, 10, 0, 10, 10, 0, 10);
        dueCounts(check, x, 401 * DAY - 1, true);
        dueCounts(check, x, 401 * DAY, false);
        dueCounts(check, x, 40_000_000 - 3600, false);
        check.due("inside all the same", x.inside(0, 2, -1), 1_800_000);
    }

    private static void dueGap(Check check) {
        check.sentence("one of more than 3600 seconds is a GAP");
        long[] lengths = {1, 3599, 3600, 3601, 3602, 7200, 40_000_000};
        for (long seconds : lengths) {
            boolean gap = seconds > 3600;
            AreaCrossings x = Check.barred(0, 0, 10, 0, 10, 10, 0, 10);
            int t = Check.path(x, 0, 5, 5, seconds, 5, 5);
            check.due("run of " + seconds, x.run(t, 0), gap ? 0 : 1);
            check.due("inside of " + seconds, x.inside(0, t, 0), gap ? 0 : 1000 * seconds);
            check.due("maybe of " + seconds, x.maybe(t, 0), gap);
        }
        AreaCrossings x = Check.barred(0, 0, 10, 0, 10, 10, 0, 10);
        int t = Check.path(x, 39_990_000, 5, 5, 39_993_600, 5, 5, 39_997_201, 5, 5);
        check.due("the length counts, not the second", x.inside(0, t, 0), 3_600_000);
        check.due("and a second more", x.inside(0, t, 1), 0);
    }

    private static void dueStraightAndEvenly(Check check) {
        check.sentence("others go straight, evenly");
        AreaCrossings x = Check.barred(0, 0, 10, 0, 10, 10, 0, 10);
        check.dueRun(x, "0:0+1/3 0:0-2/3", 0, -10, -10, 60, 20, 20);
        check.due("inside", x.inside(0, 0, 0), 20_000);
        check.dueRun(x, "0:0+1/3 0:0-2/3", 0, 20, -10, 3600, -10, 20);
        check.due("inside, slower", x.inside(0, 1, 0), 1_200_000);
        check.dueRun(x, "0:0+1/4 0:0-2/3", 0, -6, 1, 1, 18, 7);
        check.due("inside, faster", x.inside(0, 2, 0), 416);
    }
}
