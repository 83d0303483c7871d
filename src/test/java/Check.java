/** Counts the answers that are not as due, and makes what most tests begin with. */
final class Check {
    private int wrong = 0;

    void due(String call, long got, long want) {
        if (got != want) {
            wrong++;
            System.out.println(call + " answered " + got + ", due is " + want);
        }
    }

    void due(String call, boolean got, boolean want) {
        due(call, got ? 1 : 0, want ? 1 : 0);
    }

    /** The crossings of the last run, each as piece, area, + or -, and its place. */
    void dueCrossings(String run, AreaCrossings x, String want) {
        StringBuilder got = new StringBuilder();
        for (int k = 0; x.side(k) >= 0; k++) {
            got.append(k == 0 ? "" : " ").append(x.entry(k, 0)).append(':').append(x.entry(k, 3));
            got.append(x.side(k) == 1 ? '+' : '-').append(x.entry(k, 1)).append('/').append(x.entry(k, 2));
        }
        if (!got.toString().equals(want)) {
            wrong++;
            System.out.println(run + " found " + got + ", due is " + want);
        }
    }

    /** Whether corner throws what the document names. */
    static boolean cornerThrows(AreaCrossings x, int area, long atX, long atY) {
        try {
            x.corner(area, atX, atY);
            return false;
        } catch (ArrayIndexOutOfBoundsException e) {
            return true;
        }
    }

    /** Corners of the ring that is being made: x, y, x, y, ..; whether all were taken. */
    static boolean corners(AreaCrossings x, int area, long... coordinates) {
        boolean all = true;
        for (int i = 0; i + 1 < coordinates.length; i += 2) {
            all &= x.corner(area, coordinates[i], coordinates[i + 1]);
        }
        return all;
    }

    /** Corners, and the ring closed. */
    static boolean closed(AreaCrossings x, int area, long... coordinates) {
        return corners(x, area, coordinates) & x.ring(area);
    }

    static boolean rectangle(AreaCrossings x, int area, long left, long bottom, long right, long top) {
        return closed(x, area, left, bottom, right, bottom, right, top, left, top);
    }

    static boolean rectangleHole(AreaCrossings x, int area, long left, long bottom, long right, long top) {
        return x.hole(area) && rectangle(x, area, left, bottom, right, top);
    }

    /** A new track: second, x, y, second, x, y, ..; its number, or -9 if a place was not taken. */
    static int path(AreaCrossings x, long... places) {
        int track = x.track();
        for (int i = 0; i + 2 < places.length; i += 3) {
            if (!x.place(track, places[i], places[i + 1], places[i + 2])) {
                return -9;
            }
        }
        return track;
    }

    void end() {
        if (wrong != 0) {
            System.exit(1);
        }
    }
}
