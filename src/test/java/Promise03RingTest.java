/** Promise 3: ring. */
final class Promise03RingTest {
    public static void main(String[] args) {
        Check check = new Check();
        dueTooFew(check);
        dueNotSimple(check);
        dueSimple(check);
        dueNone(check);
        dueHoles(check);
        dueRefusedHoles(check);
        dueHoleInHole(check);
        check.end();
    }

    private static void dueTooFew(Check check) {
        AreaCrossings x = new AreaCrossings(1);
        check.due("ring without corners", x.ring(0), false);
        check.due("one corner", Check.closed(x, 0, 0, 0), false);
        check.due("two corners", Check.closed(x, 0, 0, 0, 5, 5), false);
        // Those corners are gone: with them these three would not be simple.
        check.due("three corners", Check.closed(x, 0, 0, 0, 5, 5, 5, 0), true);
    }

    private static void dueNotSimple(Check check) {
        long[][] refused = {
            {0, 0, 10, 0, 5, 0},
            {0, 0, 5, 0, 10, 0},
            {0, 0, 0, 0, 5, 5},
            {0, 0, 5, 5, 0, 0, 5, 0},
            {0, 0, 10, 10, 10, 0, 0, 10},
            {0, 0, 10, 0, 10, 10, 5, 0, 0, 10},
            {0, 0, 10, 0, 10, 10, 5, -1, 0, 10},
            {0, 0, 10, 0, 15, 0, 10, 0, 10, 10},
            {0, 0, 10, 0, 20, 10, 20, 0, 5, 0, 5, 20},
            {0, 0, 10, 0, 10, 10, 12, 12, 10, 10, 0, 10},
            {5, 0, 10, 0, 10, 10, 0, 10, 0, 0, 7, 0},
            {0, 0, 9, 6, 6, 4, 0, 9},
            {0, 0, 9, 6, 6, 4, -3, 40},
            {-200, -200, 200, 200, 199, 200, -199, -200, 200, 199},
        };
        for (int i = 0; i < refused.length; i++) {
            AreaCrossings x = new AreaCrossings(1);
            check.due("ring " + i + " that is not simple", Check.closed(x, 0, refused[i]), false);
            check.due("hole behind it", x.hole(0), false);
            check.due("a ring behind it", Check.rectangle(x, 0, 0, 0, 3, 3), true);
        }
    }

    private static void dueSimple(Check check) {
        long[][] fine = {
            {0, 0, 1, 0, 0, 1},
            {0, 0, 0, 1, 1, 0},
            {0, 0, 5, 0, 10, 0, 10, 10, 0, 10},
            {5, 0, 10, 0, 10, 10, 0, 10, 0, 0},
            {-200, -200, 200, 200, 199, 200},
            {0, 0, 0, 10, 2, 10, 2, 2, 4, 2, 4, 10, 6, 10, 6, 2, 8, 2, 8, 10, 10, 10, 10, 0},
            {0, 0, 10, 0, 10, 10, 5, 1, 0, 10},
        };
        for (int i = 0; i < fine.length; i++) {
            AreaCrossings x = new AreaCrossings(1);
            check.due("simple ring " + i, Check.closed(x, 0, fine[i]), true);
            check.due("hole behind it", x.hole(0), true);
        }
    }

    private static void dueNone(Check check) {
        AreaCrossings x = new AreaCrossings(1);
        check.due("ring(1)", x.ring(1), false);
        check.due("ring(-1)", x.ring(-1), false);
        check.due("ring(max)", x.ring(Integer.MAX_VALUE), false);
        check.due("ring(min)", x.ring(Integer.MIN_VALUE), false);
        Check.rectangle(x, 0, 0, 0, 10, 10);
        check.due("ring behind a closed one", x.ring(0), false);
        x.bars(0, 0, 0, 0);
        check.due("the area is there still", x.cell(5, 5, 0), 1);
    }

    private static void dueHoles(Check check) {
        AreaCrossings x = new AreaCrossings(1);
        Check.rectangle(x, 0, 0, 0, 20, 20);
        x.bars(0, 0, 0, 0);
        check.due("first hole", Check.rectangleHole(x, 0, 2, 2, 6, 6), true);
        check.due("second hole", Check.rectangleHole(x, 0, 8, 8, 12, 12), true);
        check.due("third hole", x.hole(0) && Check.closed(x, 0, 14, 14, 18, 14, 16, 18), true);
        check.due("in the area", x.cell(7, 7, 0), 1);
        check.due("on the outer ring", x.cell(20, 20, 0), 1);
        check.due("in the first hole", x.cell(4, 4, 0), 0);
        check.due("in the second hole", x.cell(9, 11, 0), 0);
        check.due("in the third hole", x.cell(16, 15, 0), 0);
        check.due("on a hole's ring", x.cell(2, 4, 0), 1);
        check.due("on a hole's corner", x.cell(12, 12, 0), 1);
    }

    private static void dueRefusedHoles(Check check) {
        AreaCrossings x = new AreaCrossings(1);
        Check.rectangle(x, 0, 0, 0, 20, 20);
        Check.rectangleHole(x, 0, 5, 5, 10, 10);
        long[][] refused = {
            {},
            {1, 1, 2, 2},
            {1, 1, 3, 3, 2, 2},
            {1, 1, 3, 3, 3, 1, 1, 3},
            {0, 0, 1, 0, 1, 1},
            {0, 3, 1, 3, 1, 4},
            {15, 15, 25, 15, 25, 18},
            {-5, -5, 25, -5, 25, 25, -5, 25},
            {30, 30, 35, 30, 35, 35},
            {6, 6, 9, 6, 9, 9},
            {10, 10, 12, 10, 12, 12},
            {9, 9, 12, 9, 12, 12},
            {10, 6, 12, 6, 12, 8},
            {11, 1, 11, 19, 9, 19},
        };
        for (int i = 0; i < refused.length; i++) {
            check.due("hole(0) " + i, x.hole(0), true);
            check.due("refused hole " + i, Check.closed(x, 0, refused[i]), false);
            check.due("corner behind it", x.corner(0, 1, 1), false);
            check.due("ring behind it", x.ring(0), false);
        }
        check.due("second hole", Check.rectangleHole(x, 0, 1, 1, 2, 2), true);
        check.due("third hole", Check.rectangleHole(x, 0, 3, 1, 4, 2), true);
        check.due("fourth hole", x.hole(0), false);
    }

    /** Nothing in the document refuses a hole around another one. */
    private static void dueHoleInHole(Check check) {
        AreaCrossings x = new AreaCrossings(1);
        Check.rectangle(x, 0, 0, 0, 20, 20);
        x.bars(0, 0, 0, 0);
        check.due("inner", Check.rectangleHole(x, 0, 8, 8, 12, 12), true);
        check.due("around it", Check.rectangleHole(x, 0, 5, 5, 15, 15), true);
        check.due("in both", x.cell(10, 10, 0), 0);
        check.due("in the larger one", x.cell(6, 6, 0), 0);
        check.due("on the larger one's ring", x.cell(5, 9, 0), 1);
        check.due("on the smaller one's ring, in the larger one", x.cell(8, 9, 0), 0);
        check.due("in the larger one, refused", Check.rectangleHole(x, 0, 6, 6, 7, 7), false);
    }
}
