/** Counts the answers that are not as due, and makes what most tests begin with. */
final class Check {
    /** What is within many limits if only the lower half of the number, or its last byte, is looked at. */
    static final long[] WRAPPED = {
        1L << 32, (1L << 32) + 1, (1L << 32) + 5, 1 - (1L << 32), -(1L << 32), (1L << 63) + 1, 1L << 16, 1 << 10,
        Integer.MIN_VALUE, Integer.MAX_VALUE, Long.MIN_VALUE, Long.MAX_VALUE};
    static final int[] FAR_INTS = {
        1 << 10, (1 << 16) + 1, (1 << 24) + 2, -(1 << 16), -255, Integer.MIN_VALUE, Integer.MIN_VALUE + 1,
        Integer.MAX_VALUE - 1, Integer.MAX_VALUE};

    private final String place;
    private String words = "";
    private int wrong = 0;

    /** The place is where the document says what is due: a promise, or the terms. */
    Check(String place) {
        this.place = place;
    }

    /** The words by which all that follows is due; they are told with each wrong answer. */
    void sentence(String sentence) {
        words = ", \"" + sentence + "\"";
    }

    private void wrong(String what) {
        wrong++;
        System.out.println(place + words + ": " + what);
    }

    void due(String call, long got, long want) {
        if (got != want) {
            wrong(call + " answered " + got + ", due is " + want);
        }
    }

    void due(String call, boolean got, boolean want) {
        due(call, got ? 1 : 0, want ? 1 : 0);
    }

    void due(String what, String got, String want) {
        if (!got.equals(want)) {
            wrong(what + " gave " + got + ", due is " + want);
        }
    }

    /** The crossings of the last run, each as piece, area, + or -, and its place. */
    void dueCrossings(String run, AreaCrossings x, String want) {
        due(run, crossings(x), want);
    }

    static String crossings(AreaCrossings x) {
        StringBuilder got = new StringBuilder();
        for (int k = 0; x.side(k) >= 0; k++) {
            got.append(k == 0 ? "" : " ").append(x.entry(k, 0)).append(':').append(x.entry(k, 3));
            got.append(x.side(k) == 1 ? '+' : '-').append(x.entry(k, 1)).append('/').append(x.entry(k, 2));
        }
        return got.toString();
    }

    /** Whether corner throws what the document names. */
    static boolean cornerThrows(AreaCrossings x, int area, long atX, long atY) {
        try {
            x.corner(area, atX, atY);
            return false;
        } catch (ArrayIndexOutOfBoundsException e) {
            return true;
        }
    }

    /** Corners of the ring that is being made: x, y, x, y, ..; whether all were taken. */
    static boolean corners(AreaCrossings x, int area, long... coordinates) {
        boolean all = true;
        for (int i = 0; i + 1 < coordinates.length; i += 2) {
            all &= x.corner(area, coordinates[i], coordinates[i + 1]);
        }
        return all;
    }

    /** So many corners on a bow, of which each three or more make a simple ring; whether all were taken. */
    static boolean bow(AreaCrossings x, int area, int corners, long left, long bottom) {
        boolean all = true;
        for (int k = 0; k < corners; k++) {
            all &= x.corner(area, left + k, bottom + k * k);
        }
        return all;
    }

    /** Corners, and the ring closed. */
    static boolean closed(AreaCrossings x, int area, long... coordinates) {
        return corners(x, area, coordinates) & x.ring(area);
    }

    static boolean closedHole(AreaCrossings x, int area, long... coordinates) {
        return x.hole(area) && closed(x, area, coordinates);
    }

    static boolean rectangle(AreaCrossings x, int area, long left, long bottom, long right, long top) {
        return closed(x, area, left, bottom, right, bottom, right, top, left, top);
    }

    static boolean rectangleHole(AreaCrossings x, int area, long left, long bottom, long right, long top) {
        return x.hole(area) && rectangle(x, area, left, bottom, right, top);
    }

    /** An object with one area, with these corners, that bars gear 0 on each day. */
    static AreaCrossings barred(long... outer) {
        AreaCrossings x = new AreaCrossings(1);
        closed(x, 0, outer);
        x.bars(0, 0, 0, 400);
        return x;
    }

    /** A new track: second, x, y, second, x, y, ..; its number, or -9 if a place was not taken. */
    static int path(AreaCrossings x, long... places) {
        int track = x.track();
        for (int i = 0; i + 2 < places.length; i += 3) {
            if (!x.place(track, places[i], places[i + 1], places[i + 2])) {
                return -9;
            }
        }
        return track;
    }

    /** A run of a new track with gear 0, and the crossings that are due. */
    void dueRun(AreaCrossings x, String want, long... places) {
        int track = path(x, places);
        int many = want.isEmpty() ? 0 : want.split(" ").length;
        due("run that is due " + want, x.run(track, 0), many);
        dueCrossings("run", x, want);
    }

    void end() {
        if (wrong != 0) {
            System.exit(1);
        }
    }
}
