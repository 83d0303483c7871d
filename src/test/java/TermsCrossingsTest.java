import java.math.BigInteger;

/** The terms on runs, and where a piece enters and leaves an area. */
final class TermsCrossingsTest {
    private static final long[] SQUARE = {0, 0, 10, 0, 10, 10, 0, 10};

    public static void main(String[] args) {
        Check check = new Check("terms");
        dueOrder(check);
        dueNotJustBefore(check);
        dueAtTheFirstBeginning(check);
        dueBehindAPieceThatCounted(check);
        dueBehindAGap(check);
        dueBehindAnotherDay(check);
        dueBehindAFastPiece(check);
        dueCountedForAnotherArea(check);
        dueLeaves(check);
        dueNotAtTheEnd(check);
        dueAPlaceAlone(check);
        dueAPlaceAloneAtTheEnds(check);
        dueAlongASide(check);
        dueInOnBothSides(check);
        dueStandingStill(check);
        dueNumberedFromZero(check);
        dueReduced(check);
        dueFinest(check);
        dueSmallest(check);
        dueManyFractions(check);
        check.end();
    }

    private static AreaCrossings square() {
        return Check.barred(SQUARE);
    }

    private static AreaCrossings squareWithHole() {
        AreaCrossings x = square();
        Check.rectangleHole(x, 0, 3, 3, 7, 7);
        return x;
    }

    private static void dueOrder(Check check) {
        check.sentence("goes PIECE by PIECE, AREA by AREA; .. along it");
        AreaCrossings x = new AreaCrossings(3);
        Check.rectangle(x, 0, 6, 0, 8, 4);
        Check.rectangle(x, 2, 2, 0, 4, 4);
        x.bars(2, 0, 0, 0);
        x.bars(0, 0, 0, 0);
        check.dueRun(x, "0:0+3/5 0:0-4/5 0:2+1/5 0:2-2/5 1:0+1/5 1:0-2/5 1:2+3/5 1:2-4/5",
            0, 0, 2, 60, 10, 2, 120, 0, 2);
    }

    private static void dueNotJustBefore(Check check) {
        check.sentence("where it ENTERS the AREA (it was not in it just before)");
        AreaCrossings x = squareWithHole();
        check.dueRun(x, "0:0+1/3 0:0-13/30 0:0+17/30 0:0-2/3", 0, -10, 5, 60, 20, 5);
        check.dueRun(x, "0:0+1/3 0:0-2/3", 0, -10, 1, 60, 20, 1);
        check.dueRun(x, "0:0+1/2", 0, 5, 5, 60, 9, 5);
        check.dueRun(x, "", 0, 4, 4, 60, 6, 6);
        check.dueRun(x, "", 0, -5, 11, 60, 20, 12);
    }

    private static void dueAtTheFirstBeginning(Check check) {
        check.sentence("at the beginning of the PIECE, if it is in it there, and .. there is none before");
        AreaCrossings x = squareWithHole();
        check.dueRun(x, "0:0+0/1 0:0-2/7 0:0+6/7", 0, 1, 4, 60, 8, 4);
        check.dueRun(x, "0:0+0/1", 0, 1, 1, 60, 2, 9);
        check.dueRun(x, "0:0+0/1", 0, 0, 0, 60, 1, 1);
        check.dueRun(x, "0:0+0/1", 0, 7, 5, 60, 8, 5);
        check.dueRun(x, "0:0+1/3", 0, 6, 4, 3600, 6, 1, 3660, 9, 1);
        check.dueRun(x, "0:0+1/2", 0, -1, 1, 3600, 1, 1);
    }

    private static void dueBehindAPieceThatCounted(Check check) {
        check.sentence("at the beginning of the PIECE ..: not where the PIECE before did COUNT for it");
        AreaCrossings x = square();
        check.dueRun(x, "0:0+1/2 2:0-1/2", 0, -5, 5, 60, 5, 5, 120, 5, 6, 180, 15, 6);
        check.dueRun(x, "0:0+1/1", 0, -5, 5, 60, 0, 5, 120, 5, 5);
        check.dueRun(x, "0:0+1/1 1:0-0/1", 0, -5, 5, 60, 0, 5, 120, -5, 5);
        check.dueRun(x, "0:0+0/1 1:0-0/1", 0, 5, 5, 60, 10, 5, 120, 15, 5);
        check.dueRun(x, "0:0+1/2 2:0-0/1", 0, 5, 15, 60, 5, 5, 120, 10, 5, 180, 11, 5);
        // Out by one corner and back by another one.
        check.dueRun(x, "0:0+0/1 1:0-0/1 2:0+1/1", 0, 9, 9, 60, 10, 10, 120, 10, 11, 180, 0, 10, 240, 0, 9);
    }

    private static void dueBehindAGap(Check check) {
        check.sentence("at the beginning of the PIECE, if .. the PIECE before did not COUNT for it: a GAP");
        AreaCrossings x = square();
        check.dueRun(x, "0:0+0/1", 0, 1, 1, 60, 5, 5, 3660, 5, 5, 3700, 6, 6);
        check.dueRun(x, "0:0+0/1 2:0+0/1", 0, 1, 1, 60, 5, 5, 3661, 5, 5, 3700, 6, 6);
        check.dueRun(x, "0:0+0/1 2:0+0/1 2:0-1/2", 0, 1, 1, 60, 5, 5, 3661, 5, 5, 3700, 15, 5);
        check.dueRun(x, "1:0+0/1 1:0-0/1", 0, 5, 5, 3601, 10, 5, 3700, 15, 5);
        check.dueRun(x, "0:0+0/1 2:0+1/3", 0, 1, 5, 60, 5, 5, 3661, -5, 5, 3700, 10, 5);
    }

    private static void dueBehindAnotherDay(Check check) {
        check.sentence("at the beginning of the PIECE, if .. the PIECE before did not COUNT for it: another DAY");
        AreaCrossings x = new AreaCrossings(1);
        Check.closed(x, 0, SQUARE);
        x.bars(0, 0, 1, 1);
        int t = Check.path(x, 86_300, 1, 1, 86_399, 2, 2, 86_400, 3, 3, 86_410, 4, 4,
            172_799, 5, 5, 172_800, 6, 6, 172_810, 7, 7);
        check.due("run", x.run(t, 0), 2);
        check.dueCrossings("day 1", x, "2:0+0/1 4:0+0/1");
        x.bars(0, 0, 0, 0);
        check.due("run with day 0", x.run(t, 0), 2);
        check.dueCrossings("days 0 and 1", x, "0:0+0/1 4:0+0/1");
        x.bars(0, 0, 2, 2);
        check.due("run with day 2", x.run(t, 0), 2);
        check.dueCrossings("days 0 to 2", x, "0:0+0/1 4:0+0/1");
    }

    private static void dueBehindAFastPiece(Check check) {
        check.sentence("at the beginning of the PIECE, if .. the PIECE before did not COUNT for it: a FAST one");
        AreaCrossings x = square();
        x.speed(0, 3600);
        check.dueRun(x, "0:0+0/1 2:0+0/1", 0, 1, 1, 60, 2, 1, 61, 3, 1, 121, 4, 1);
        check.dueRun(x, "0:0+0/1", 0, 1, 1, 60, 2, 1, 62, 3, 1, 121, 4, 1);
        // It leaves while it is fast, which is no crossing.
        check.dueRun(x, "0:0+0/1 2:0+1/2", 0, 1, 5, 60, 2, 5, 61, -2, 5, 121, 2, 5);
    }

    private static void dueCountedForAnotherArea(Check check) {
        check.sentence("at the beginning of the PIECE, if .. the PIECE before did not COUNT for it: but for another one");
        AreaCrossings x = new AreaCrossings(2);
        Check.closed(x, 0, SQUARE);
        Check.closed(x, 1, SQUARE);
        x.bars(0, 0, 0, 1);
        x.bars(1, 0, 1, 1);
        check.dueRun(x, "0:0+0/1 1:1+0/1", 86_340, 1, 1, 86_400, 2, 2, 86_460, 3, 3);
    }

    private static void dueLeaves(Check check) {
        check.sentence("and LEAVES it (behind that place it is not in it)");
        AreaCrossings x = squareWithHole();
        check.dueRun(x, "0:0+0/1 0:0-1/2", 0, 9, 5, 60, 11, 5);
        check.dueRun(x, "0:0+0/1 0:0-1/2", 0, 1, 5, 60, 5, 5);
        check.dueRun(x, "0:0+0/1 0:0-0/1", 0, 10, 5, 60, 11, 5);
        check.dueRun(x, "0:0+0/1 0:0-0/1", 0, 3, 5, 60, 5, 5);
        check.dueRun(x, "0:0+0/1 0:0-0/1 0:0+1/1", 0, 3, 5, 60, 7, 5);
        check.dueRun(x, "0:0+0/1 0:0-1/4 0:0+3/4", 0, 1, 1, 60, 9, 9);
    }

    private static void dueNotAtTheEnd(Check check) {
        check.sentence("and LEAVES it (not at the PIECE's end)");
        AreaCrossings x = square();
        check.dueRun(x, "0:0+0/1", 0, 5, 5, 60, 10, 5);
        check.dueRun(x, "0:0+0/1 1:0-0/1", 0, 5, 5, 60, 10, 5, 120, 11, 5);
        check.dueRun(x, "0:0+0/1", 0, 5, 5, 60, 10, 5, 3661, 11, 5);
        check.dueRun(x, "0:0+0/1", 0, 5, 5, 60, 6, 5);
        check.dueRun(x, "0:0+0/1 0:0-5/6", 0, 5, 5, 60, 11, 5);
    }

    private static void dueAPlaceAlone(Check check) {
        check.sentence("A place alone, on a RING, is entered and left");
        AreaCrossings x = squareWithHole();
        check.dueRun(x, "0:0+1/2 0:0-1/2", 0, -5, 5, 60, 5, -5);
        check.dueRun(x, "0:0+1/2 0:0-1/2", 0, 5, 15, 60, 15, 5);
        AreaCrossings pointed = Check.barred(0, 0, 4, 6, 8, 0, 8, 6, 4, 7, 0, 6);
        check.dueRun(pointed, "0:0+1/6 0:0-1/6 0:0+5/6 0:0-5/6", 0, -2, 0, 60, 10, 0);
        // A corner of a notch of the hole, and the hole on both sides of it.
        AreaCrossings bitten = Check.barred(0, 0, 20, 0, 20, 20, 0, 20);
        Check.closedHole(bitten, 0, 5, 5, 10, 9, 15, 5, 15, 15, 5, 15);
        check.dueRun(bitten, "0:0+0/1 0:0-1/4 0:0+1/2 0:0-1/2 0:0+3/4", 0, 0, 9, 60, 20, 9);
    }

    private static void dueAPlaceAloneAtTheEnds(Check check) {
        check.sentence("A place alone, on a RING, is entered and left: at the PIECE's beginning, and its end");
        AreaCrossings x = square();
        check.dueRun(x, "0:0+0/1 0:0-0/1", 0, 0, 5, 60, -5, 5);
        check.dueRun(x, "0:0+1/1", 0, -5, 5, 60, 0, 5);
        check.dueRun(x, "0:0+1/1 1:0-0/1", 0, -5, 5, 60, 0, 5, 120, -5, 6);
        check.dueRun(x, "0:0+1/1 2:0-0/1", 0, 15, 5, 60, 10, 5, 120, 10, 5, 180, 15, 5);
        check.dueRun(x, "0:0+1/1", 0, -5, -5, 60, 0, 0, 3661, -5, -5);
    }

    private static void dueAlongASide(Check check) {
        check.sentence("where it ENTERS the AREA, and LEAVES it: along a SIDE, which belongs to it");
        AreaCrossings x = square();
        check.dueRun(x, "0:0+1/4 0:0-1/2", 0, 20, 10, 60, -20, 10);
        check.dueRun(x, "0:0+0/1 0:0-1/2", 0, 0, 2, 60, 0, 18);
        check.dueRun(x, "0:0+0/1", 0, 0, 2, 60, 0, 10);
        check.dueRun(x, "", 0, -5, 0, 60, -1, 0);
        AreaCrossings stairs = Check.barred(0, 0, 20, 0, 20, 10, 10, 10, 10, 5, 0, 5);
        check.dueRun(stairs, "0:0+1/4 0:0-3/4", 0, -10, 5, 60, 30, 5);
        check.dueRun(stairs, "0:0+1/4 0:0-3/4", 0, 10, 15, 60, 10, -5);
        AreaCrossings battlements = Check.barred(0, 0, 12, 0, 12, 8, 8, 8, 8, 4, 4, 4, 4, 8, 0, 8);
        check.dueRun(battlements, "0:0+1/5 0:0-2/5 0:0+3/5 0:0-4/5", 0, -4, 8, 60, 16, 8);
        check.dueRun(battlements, "0:0+1/5 0:0-4/5", 0, -4, 4, 60, 16, 4);
    }

    private static void dueInOnBothSides(Check check) {
        check.sentence("ENTERS (it was not in it just before) .. LEAVES (behind that place it is not in it): touching is neither");
        AreaCrossings x = squareWithHole();
        check.dueRun(x, "0:0+0/1", 0, 1, 5, 60, 5, 1);
        check.dueRun(x, "0:0+0/1", 0, 1, 3, 60, 9, 3);
        AreaCrossings notched = Check.barred(0, 0, 10, 0, 10, 10, 5, 5, 0, 10);
        check.dueRun(notched, "0:0+0/1", 0, 1, 5, 60, 9, 5);
        check.dueRun(notched, "0:0+2/15 0:0-4/15 0:0+2/3 0:0-4/5", 0, -2, 8, 60, 13, 8);
    }

    private static void dueStandingStill(Check check) {
        check.sentence("ENTERS .. at the beginning of the PIECE .. LEAVES .. not at the PIECE's end: it stands still");
        AreaCrossings x = squareWithHole();
        check.dueRun(x, "0:0+0/1", 0, 1, 1, 60, 1, 1);
        check.dueRun(x, "0:0+0/1", 0, 10, 10, 60, 10, 10);
        check.dueRun(x, "", 0, 5, 5, 60, 5, 5);
        check.dueRun(x, "", 0, 50, 5, 60, 50, 5);
        check.dueRun(x, "0:0+1/1 2:0-0/1", 0, 15, 5, 60, 10, 5, 120, 10, 5, 180, 15, 5);
    }

    private static void dueNumberedFromZero(Check check) {
        check.sentence("These are CROSSINGS, numbered from 0 on");
        AreaCrossings x = square();
        check.due("run", x.run(Check.path(x, 0, -5, 5, 60, 15, 5), 0), 2);
        int[] sides = {-1, 1, 0, -1};
        for (int k = -1; k <= 2; k++) {
            check.due("side(" + k + ")", x.side(k), sides[k + 1]);
            check.due("entry(" + k + ", 0)", x.entry(k, 0), k < 0 || k > 1 ? -1 : 0);
        }
    }

    private static void dueReduced(Check check) {
        check.sentence("the place is a fraction of the PIECE, reduced (0 / 1 its beginning)");
        for (int length = 11; length <= 40; length++) {
            AreaCrossings x = square();
            int t = Check.path(x, 0, -1, 5, 60, length - 1, 5);
            x.run(t, 0);
            check.due("it enters at 1 / " + length, x.entry(0, 1) == 1 && x.entry(0, 2) == length, true);
            long divisor = length % 11 == 0 ? 11 : 1;
            check.due("numerator of 11 / " + length, length == 11 ? 11 : x.entry(1, 1) * divisor, 11);
            check.due("denominator of 11 / " + length, length == 11 ? 11 : x.entry(1, 2) * divisor, length);
        }
        AreaCrossings x = square();
        check.dueRun(x, "0:0+0/1 0:0-0/1", 0, 10, 10, 60, 20, 10);
        check.dueRun(x, "0:0+1/1", 0, 200, 200, 60, 10, 10);
        check.dueRun(x, "0:0+1/2", 0, -4, 4, 60, 4, 4);
        check.dueRun(x, "0:0+1/2 0:0-10/19", 0, 200, 200, 3600, -180, -180);
    }

    private static void dueFinest(Check check) {
        check.sentence("the place is a fraction of the PIECE, reduced: as fine as can be");
        AreaCrossings wide = Check.barred(-200, -200, 199, 200, 200, 199);
        check.dueRun(wide, "0:0+159600/319201 0:0-200/399", 0, -200, 200, 60, 200, -199);
    }

    private static void dueSmallest(Check check) {
        check.sentence("the place is a fraction of the PIECE, reduced: SIDES and PIECES of a unit");
        AreaCrossings x = Check.barred(0, 0, 1, 0, 0, 1);
        check.dueRun(x, "0:0+1/2", 0, -1, 0, 60, 1, 0);
        check.dueRun(x, "0:0+0/1 0:0-1/2", 0, 0, 0, 60, 1, 1);
        check.dueRun(x, "0:0+0/1", 0, 0, 0, 60, 1, 0);
        check.dueRun(x, "0:0+1/2 0:0-1/2", 0, 1, -1, 60, 1, 1);
        AreaCrossings thin = Check.barred(1, -1, 2, 2, 1, 1);
        check.dueRun(thin, "0:0+1/2 0:0-2/3", 0, 0, 0, 60, 2, 0);
        check.dueRun(thin, "0:0+1/3 0:0-1/2", 0, 2, 0, 60, 0, 0);
        AreaCrossings flat = Check.barred(0, 0, 5, 0, 5, 1, 0, 1);
        check.dueRun(flat, "0:0+0/1", 0, 1, 1, 60, 3, 1);
        check.dueRun(flat, "0:0+0/1", 0, 4, 0, 60, 2, 0);
        check.dueRun(flat, "0:0+1/2", 0, 1, -1, 60, 1, 1);
        check.dueRun(flat, "0:0+0/1 0:0-1/2", 0, 4, 1, 60, 6, 1);
    }

    /** The fractions of one piece are nothing to the next one: each piece here has others. */
    private static void dueManyFractions(Check check) {
        check.sentence("for each PIECE that COUNTS, along it: a full TRACK");
        AreaCrossings x = square();
        x.track();
        StringBuilder want = new StringBuilder();
        for (int i = 0; i < 30; i++) {
            x.place(0, i, i % 2 == 0 ? -1 - i : 10 + i, 5);
            if (i > 0) {
                long length = 10 + 2 * i;
                // So much of the way is before the square.
                long before = i % 2 == 1 ? i : i - 1;
                want.append(i == 1 ? "" : " ").append(i - 1).append(":0+").append(reduced(before, length));
                want.append(' ').append(i - 1).append(":0-").append(reduced(before + 10, length));
            }
        }
        check.due("run", x.run(0, 0), 58);
        check.dueCrossings("run", x, want.toString());
    }

    private static String reduced(long over, long under) {
        long divisor = BigInteger.valueOf(over).gcd(BigInteger.valueOf(under)).longValueExact();
        return over / divisor + "/" + under / divisor;
    }
}
