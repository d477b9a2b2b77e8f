/** Promises 8 and 9: what stands against a plan, and its witnesses. */
public final class PlanTest {
    private static final Check check = new Check();
    private static final int[][] NONE = {};

    public static void main(String[] args) {
        crossings();
        crossingsInOrder();
        notRound();
        wideFaces();
        outlines();
        wrongCorners();
        sharedCorners();
        looseTriangles();
        orderOfAnswers();
        check.end();
    }

    private static void judge(String what, int[][] rooms, int[][] joins, int... want) {
        check.due(what, Houses.plan(Houses.draw(rooms, joins)), want);
    }

    private static void crossings() {
        int[][] line = {{0, 0, 0}, {1, 6, 6}, {2, 3, 3}, {3, 9, 9}};
        judge("8: a crossing", Houses.SQUARE, new int[][] {{0, 2}, {1, 3}}, 0, 0, 1, -1);
        judge("8: an end of one on the other", new int[][] {{0, 0, 0}, {1, 10, 0}, {2, 5, 0}, {3, 5, 8}},
            new int[][] {{2, 3}, {0, 1}}, 0, 0, 1, -1);
        judge("8: one over the other, from one room on", line, new int[][] {{0, 3}, {0, 1}}, 0, 0, 1, -1);
        judge("8: one over the other, to one room", line, new int[][] {{2, 1}, {1, 0}}, 0, 0, 1, -1);
        judge("8: one over a part of the other", line, new int[][] {{0, 1}, {3, 2}}, 0, 0, 1, -1);
        judge("8: one within the other", line, new int[][] {{2, 1}, {0, 3}}, 0, 0, 1, -1);
        judge("8: straight on", line, new int[][] {{0, 2}, {2, 1}, {1, 3}}, 2, -1, -1, -1);
        judge("8: apart on one line", line, new int[][] {{0, 2}, {1, 3}}, 2, -1, -1, -1);
        judge("8: beside one another", new int[][] {{0, 0, 0}, {1, 9, 0}, {2, 0, 1}, {3, 9, 1}},
            new int[][] {{0, 1}, {2, 3}}, 2, -1, -1, -1);
        judge("8: a room on a join", line, new int[][] {{0, 1}}, 0, 0, 2, -1);
        judge("8: room 0 on a join", new int[][] {{1, 0, 31}, {0, 15, 16}, {2, 30, 1}}, new int[][] {{1, 2}}, 0, 0, 0, -1);
        judge("8: a room on a join upward", new int[][] {{0, 4, 0}, {1, 4, 31}, {2, 4, 30}}, new int[][] {{1, 0}}, 0, 0, 2, -1);
        judge("8: a room behind a join's end", new int[][] {{0, 4, 0}, {1, 4, 29}, {2, 4, 30}}, new int[][] {{1, 0}}, 2, -1, -1, -1);
        judge("8: a room close to a join", new int[][] {{0, 0, 0}, {1, 31, 30}, {2, 1, 1}}, new int[][] {{0, 1}}, 2, -1, -1, -1);
    }

    private static void crossingsInOrder() {
        int[][] rooms = {{0, 0, 10}, {1, 30, 10}, {2, 5, 0}, {3, 5, 20}, {4, 15, 0}, {5, 15, 20}, {6, 25, 0}, {7, 25, 20},
            {8, 20, 10}};
        judge("9: the least first one", rooms, new int[][] {{2, 4}, {2, 3}, {4, 5}, {0, 1}, {6, 7}}, 0, 1, 3, -1);
        judge("9: then the least second one", rooms, new int[][] {{0, 1}, {3, 5}, {6, 7}, {4, 5}}, 0, 0, 2, -1);
        judge("9: joins before a room on one", rooms, new int[][] {{0, 1}, {2, 4}, {4, 3}, {2, 5}}, 0, 0, 2, -1);
        judge("9: a room, if there are no such joins", rooms, new int[][] {{2, 4}, {1, 0}}, 0, 1, 8, -1);
        judge("9: the least join, then the least room",
            new int[][] {{0, 0, 0}, {1, 20, 0}, {2, 0, 9}, {3, 20, 9}, {4, 10, 9}, {5, 7, 9}, {6, 3, 0}},
            new int[][] {{2, 3}, {0, 1}}, 0, 0, 4, -1);
        HouseDesk desk = Houses.square(new int[] {0, 2}, new int[] {1, 3});
        desk.plan();
        check.due("9: below", desk.witness(-1), -1);
        check.due("9: above", desk.witness(Integer.MAX_VALUE), -1);
        desk.room(4, 1, 1);
        check.due("9: a change leaves it", desk.witness(1), 5);
    }

    private static void notRound() {
        int[][] bow = {{0, 0, 0}, {1, 0, 20}, {2, 10, 10}, {3, 20, 0}, {4, 20, 20}};
        judge("8: nothing", NONE, NONE, 2, -1, -1, -1);
        judge("8: two rooms", new int[][] {{0, 0, 0}, {1, 1, 1}}, new int[][] {{0, 1}}, 2, -1, -1, -1);
        judge("8: three rooms in a row", new int[][] {{0, 0, 0}, {1, 5, 1}, {2, 9, 0}}, new int[][] {{0, 1}, {1, 2}}, 2, -1, -1, -1);
        judge("8: two triangles at one room", bow, new int[][] {{0, 1}, {1, 2}, {2, 0}, {2, 3}, {3, 4}, {4, 2}}, 2, -1, -1, -1);
        judge("8: two triangles apart",
            new int[][] {{0, 0, 0}, {1, 0, 9}, {2, 9, 0}, {3, 20, 0}, {4, 20, 9}, {5, 29, 0}},
            new int[][] {{0, 1}, {1, 2}, {2, 0}, {3, 4}, {4, 5}, {5, 3}}, 2, -1, -1, -1);
        judge("8: a triangle within a triangle, not joined",
            new int[][] {{0, 0, 0}, {1, 0, 31}, {2, 31, 0}, {3, 5, 5}, {4, 5, 9}, {5, 9, 5}},
            new int[][] {{0, 1}, {1, 2}, {2, 0}, {3, 4}, {4, 5}, {5, 3}}, 2, -1, -1, -1);
        judge("8: a room that is not joined", bow, new int[][] {{0, 1}, {1, 2}, {2, 0}, {2, 3}, {3, 0}}, 2, -1, -1, -1);
        judge("8: a tail outside", bow, new int[][] {{0, 1}, {1, 2}, {2, 0}, {2, 3}, {3, 0}, {2, 4}}, 2, -1, -1, -1);
    }

    private static void wideFaces() {
        int[][] grid = {{2, 0, 0}, {5, 0, 10}, {0, 10, 0}, {4, 10, 10}, {1, 20, 0}, {3, 20, 10}};
        int[][] other = {{2, 0, 0}, {5, 0, 10}, {0, 10, 0}, {1, 10, 10}, {4, 20, 0}, {3, 20, 10}};
        judge("9: the face with the least rooms", grid,
            new int[][] {{2, 5}, {5, 4}, {4, 3}, {3, 1}, {1, 0}, {0, 2}, {0, 4}}, 3, 0, 1, 3);
        judge("9: compared to the third room", other,
            new int[][] {{2, 5}, {5, 1}, {1, 3}, {3, 4}, {4, 0}, {0, 2}, {0, 1}}, 3, 0, 1, 2);
        judge("9: a narrow face does not count", grid,
            new int[][] {{2, 5}, {5, 4}, {4, 3}, {3, 1}, {1, 0}, {0, 2}, {0, 4}, {0, 3}}, 3, 0, 2, 4);
        judge("8: a tail inside", new int[][] {{4, 0, 0}, {1, 0, 31}, {2, 31, 0}, {3, 5, 5}},
            new int[][] {{4, 1}, {1, 2}, {2, 4}, {3, 4}}, 3, 1, 2, 3);
        judge("8: a long outline", new int[][] {{8, 0, 9}, {7, 9, 0}, {6, 18, 0}, {5, 27, 9}, {4, 13, 20}},
            new int[][] {{8, 7}, {7, 6}, {6, 5}, {5, 4}, {4, 8}}, 3, 4, 5, 6);
    }

    private static void outlines() {
        int[][] column = {{0, 0, 10}, {1, 0, 0}, {2, 0, 20}, {3, 10, 10}};
        HouseDesk desk = Houses.draw(column, new int[][] {{0, 1}, {0, 2}, {0, 3}, {1, 3}, {2, 3}});
        check.due("8: three rooms furthest west", desk.plan(), 4);
        check.due("16: three rooms furthest west", Houses.counts(desk), 4, 5, 4, 2, 0);
        check.due("8: clockwise from the lowest of them", planWith(desk, 1, 0, 2, 3), 1);
        check.due("8: and from any other", planWith(desk, 2, 3, 1, 0), 1);
        int[][] ring = {{0, 0, 16}, {1, 4, 4}, {2, 16, 0}, {3, 24, 3}, {4, 30, 12}, {5, 31, 20}, {6, 24, 30}, {7, 14, 31}, {8, 3, 26}};
        int[][] joins = new int[9][];
        for (int i = 0; i < 9; i++) {
            joins[i] = new int[] {i, (i + 1) % 9};
        }
        HouseDesk nine = Houses.draw(ring, joins);
        check.due("9: nine rooms around nothing", Houses.plan(nine), 3, 0, 1, 2);
        check.due("16: nine rooms around nothing", Houses.counts(nine), 9, 9, 9, 1, 0);
    }

    private static int planWith(HouseDesk desk, int a, int b, int c, int d) {
        desk.corners(a, b, c, d);
        return desk.plan();
    }

    private static void wrongCorners() {
        HouseDesk desk = Houses.wheel();
        check.due("8: not named", Houses.plan(desk), 4, -1, -1, -1);
        check.due("8: all the same", planWith(desk, 1, 1, 1, 1), 4);
        check.due("8: an inner room", planWith(desk, 0, 1, 4, 3), 4);
        check.due("8: an inner room first", planWith(desk, 4, 1, 2, 3), 4);
        check.due("8: counterclockwise", planWith(desk, 3, 2, 1, 0), 4);
        check.due("8: a and c", planWith(desk, 0, 1, 0, 3), 4);
        check.due("8: b and d", planWith(desk, 0, 1, 2, 1), 4);
        check.due("8: a and c, b and d", planWith(desk, 0, 2, 0, 2), 4);
        check.due("8: two in the wrong order", planWith(desk, 0, 2, 1, 3), 4);
        check.due("8: more than one turn", planWith(desk, 0, 2, 3, 1), 4);
        int[] clockwise = {0, 1, 2, 3};
        for (int k = 0; k < 4; k++) {
            check.due("8: from room " + k + " on", planWith(desk, clockwise[k], clockwise[(k + 1) % 4],
                clockwise[(k + 2) % 4], clockwise[(k + 3) % 4]), 1);
        }
    }

    private static void sharedCorners() {
        HouseDesk desk = Houses.wheel();
        check.due("8: a is b", planWith(desk, 0, 0, 1, 2), 1);
        check.due("8: b is c", planWith(desk, 0, 1, 1, 2), 1);
        check.due("8: c is d", planWith(desk, 0, 1, 2, 2), 1);
        check.due("8: d is a", planWith(desk, 0, 1, 2, 0), 1);
        check.due("8: a is b, c is d", planWith(desk, 0, 0, 2, 2), 1);
        check.due("8: b is c, d is a", planWith(desk, 0, 2, 2, 0), 1);
        int[][] three = {{0, 0, 0, 2, 0, 11, 12}, {2, 0, 0, 0, 0, 9, 12}, {0, 2, 0, 0, 0, 9, 10}, {0, 0, 2, 0, 0, 10, 11}};
        for (int[] c : three) {
            desk.corners(c[0], c[1], c[2], c[3]);
            check.due("9: three corners in one room", Houses.plan(desk), 5, c[4], c[5], c[6]);
        }
    }

    private static void looseTriangles() {
        HouseDesk desk = Houses.square(new int[] {0, 2});
        int[][] named = {{0, 2, 2, 3}, {3, 0, 2, 2}, {2, 3, 0, 2}, {2, 3, 0, 0}};
        for (int k = 0; k < 4; k++) {
            desk.corners(named[k][0], named[k][1], named[k][2], named[k][3]);
            check.due("9: side " + k + " has both ends of a chord", Houses.plan(desk), 5, 0, 2, 9 + k);
        }
        HouseDesk triangle = Houses.triangle();
        triangle.corners(0, 1, 1, 0);
        check.due("9: ends of a side that follow one another the other way", Houses.plan(triangle), 5, 0, 1, 9);
        HouseDesk inner = Houses.wheel();
        Houses.add(inner, new int[][] {{5, 14, 20}}, new int[][] {{5, 0}, {5, 1}, {5, 4}});
        inner.corners(0, 1, 2, 3);
        check.due("9: a room within three", Houses.plan(inner), 5, 0, 1, 4);
    }

    private static void orderOfAnswers() {
        int[][] rooms = {{0, 0, 0}, {1, 10, 10}, {2, 0, 10}, {3, 10, 0}, {4, 20, 20}, {5, 20, 30}};
        HouseDesk desk = Houses.draw(rooms, new int[][] {{0, 1}, {2, 3}});
        check.due("8: 0 before 2", desk.plan(), 0);
        HouseDesk wide = Houses.draw(new int[][] {{0, 0, 0}, {1, 0, 20}, {2, 20, 20}, {3, 20, 0}, {4, 30, 30}},
            new int[][] {{0, 1}, {1, 2}, {2, 3}, {3, 0}, {2, 4}});
        check.due("8: 2 before 3", wide.plan(), 2);
        check.due("8: 3 before 4", Houses.square().plan(), 3);
        HouseDesk within = Houses.triangle();
        Houses.add(within, new int[][] {{3, 15, 12}}, new int[][] {{3, 0}, {3, 1}, {3, 2}});
        check.due("8: 4 before 5", within.plan(), 4);
        within.corners(0, 2, 1, 0);
        check.due("8: 5 before 1", Houses.plan(within), 5, 0, 1, 2);
        check.due("8: again", Houses.plan(within), 5, 0, 1, 2);
    }
}
