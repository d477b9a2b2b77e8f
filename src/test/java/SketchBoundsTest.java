import java.util.NoSuchElementException;

/** The boundary cases of the sketch: "What it is", "Terms" up to the corners, promises 1 to 7. */
public final class SketchBoundsTest {
    private static final Class<IllegalArgumentException> WRONG = IllegalArgumentException.class;
    private static final Class<IllegalStateException> EARLY = IllegalStateException.class;
    private static final Class<NoSuchElementException> NONE = NoSuchElementException.class;
    private static final int LEAST = Integer.MIN_VALUE;
    private static final int MOST = Integer.MAX_VALUE;
    private static final Check check = new Check();

    public static void main(String[] args) {
        check.each(SketchBoundsTest::calls, SketchBoundsTest::fullSketch, SketchBoundsTest::joinsInOrder,
            SketchBoundsTest::newObject, SketchBoundsTest::roomNumbers, SketchBoundsTest::roomPoints,
            SketchBoundsTest::roomDrawn, SketchBoundsTest::pointTaken, SketchBoundsTest::planTakenAway,
            SketchBoundsTest::planLeft, SketchBoundsTest::joinNumbers, SketchBoundsTest::joinOfOneRoom,
            SketchBoundsTest::joinNotDrawn, SketchBoundsTest::joinedAlready, SketchBoundsTest::joinsFull,
            SketchBoundsTest::cornersAnew, SketchBoundsTest::cornersNotDrawn, SketchBoundsTest::leastAtFirst,
            SketchBoundsTest::leastOtherNumber, SketchBoundsTest::leastNotDrawn, SketchBoundsTest::wallAtFirst,
            SketchBoundsTest::wallOtherNumber, SketchBoundsTest::wallNoJoin, SketchBoundsTest::clearedAll,
            SketchBoundsTest::clearedCorners, SketchBoundsTest::clearedStays);
        check.end();
    }

    // What it is

    private static void calls() {
        check.sentence("What it is", "An object is used for at most 512 calls after it has been made");
        HouseDesk planning = Houses.planned();
        for (int call = 9; call <= 511; call++) {
            if (call % 2 == 0) {
                check.due("plan() as call " + call, planning.plan(), 1);
            } else {
                check.due("house(0) as call " + call, planning.house(0), 2);
            }
        }
        check.due("house(1) as call 512", planning.house(1), 2);
        HouseDesk drawing = new HouseDesk();
        for (int round = 0; round < 16; round++) {
            Houses.drawFull(drawing);
            check.due("plan() with 30 drawn, round " + round, drawing.plan(), 4);
            drawing.clear();
        }
        HouseDesk refusing = new HouseDesk();
        for (int call = 1; call <= 511; call++) {
            check.refused("join(0, 1) as call " + call, WRONG, () -> refusing.join(0, 1));
        }
        refusing.room(0, 0, 0);
        check.due("count(0) when call 512 was room(0, 0, 0)", refusing.count(0), 1);
    }

    // Terms

    private static void fullSketch() {
        check.sentence("Terms", "A SKETCH has at most 9 ROOMS 0 .. 8, drawn at different points x, y of 0 .. 31"
            + " (y goes upward), and at most 21 JOINS");
        HouseDesk desk = Houses.full();
        check.due("counts of a full sketch", Houses.counts(desk), 9, 21, 0, 0, 0);
        check.due("plan() of a full sketch", desk.plan(), 4);
        check.due("counts behind it", Houses.counts(desk), 9, 21, 3, 13, 0);
        desk.corners(0, 2, 1, 0);
        check.due("plan() with corners", Houses.plan(desk), 5, 0, 1, 2);
        HouseDesk wide = Houses.draw(new int[][] {{0, 0, 0}, {4, 0, 31}, {7, 31, 31}, {8, 31, 0}},
            new int[][] {{0, 4}, {4, 7}, {7, 8}, {8, 0}, {4, 8}});
        wide.corners(4, 7, 8, 0);
        check.due("plan() of a room in each edge of the field, upward is north", wide.plan(), 1);
        check.due("plan() of nine rooms", Houses.ring().plan(), 1);
    }

    private static void joinsInOrder() {
        check.sentence("Terms", "lines between two rooms, numbered in the order in which they are drawn");
        HouseDesk desk = Houses.draw(new int[][] {{0, 5, 5}, {1, 25, 5}, {2, 15, 25}}, new int[0][]);
        check.due("join(2, 0)", desk.join(2, 0), 0);
        check.due("join(1, 2)", desk.join(1, 2), 1);
        check.due("join(0, 1)", desk.join(0, 1), 2);
        desk.corners(0, 2, 1, 0);
        desk.wall(1, 9);
        desk.plan();
        check.due("wall of join 1, 1 below 2", Houses.wallOf(desk, 1), 2, 1, 10);
        check.due("wall of join 0, 2 right of 0", Houses.wallOf(desk, 0), 1, 1, 2);
        check.due("wall of join 2, 0 left of 1", Houses.wallOf(desk, 2), 0, 0, 1);
        HouseDesk full = new HouseDesk();
        for (int i = 0; i < 7; i++) {
            full.room(i, i, i * i % 32);
            for (int j = 0; j < i; j++) {
                check.due("join(j, i)", full.join(j, i), i * (i - 1) / 2 + j);
            }
        }
    }

    // Promise 1

    private static void newObject() {
        check.sentence("1", "Nothing drawn.");
        HouseDesk drawn = Houses.planned();
        HouseDesk desk = new HouseDesk();
        check.due("counts", Houses.counts(desk), 0, 0, 0, 0, 0);
        for (int i = 0; i < 9; i++) {
            int room = i;
            check.refused("way(i, i)", WRONG, () -> desk.way(room, room));
            check.refused("least(i, 1, 1)", WRONG, () -> desk.least(room, 1, 1));
            check.refused("corners(i, i, i, i)", WRONG, () -> desk.corners(room, room, room, room));
            check.refused("join(i, i + 1)", WRONG, () -> desk.join(room, room + 1));
        }
        check.refused("wall(0, 1)", WRONG, () -> desk.wall(0, 1));
        check.refused("rect(0, 0)", NONE, () -> desk.rect(0, 0));
        check.refused("house(0)", NONE, () -> desk.house(0));
        check.refused("wallOf(0, 0)", NONE, () -> desk.wallOf(0, 0));
        check.refused("side(0, 0)", NONE, () -> desk.side(0, 0));
        check.due("witness(0)", desk.witness(0), -1);
        check.due("wayRoom(0)", desk.wayRoom(0), -1);
        check.due("plan() and witnesses", Houses.plan(desk), 2, -1, -1, -1);
        check.due("the other object's counts", Houses.counts(drawn), 3, 3, 3, 1, 1);
    }

    // Promise 2

    private static void roomNumbers() {
        check.sentence("2", "IllegalArgumentException: no such room");
        HouseDesk desk = new HouseDesk();
        for (int i : new int[] {-1, 9, 10, 32, -9, LEAST, MOST}) {
            check.refused("room(" + i + ", 5, 5)", WRONG, () -> desk.room(i, 5, 5));
        }
        check.due("count(0) behind refused ones", desk.count(0), 0);
        desk.room(0, 5, 5);
        desk.room(8, 6, 6);
        check.due("count(0) with the first and the last room", desk.count(0), 2);
        for (int i = 1; i < 8; i++) {
            desk.room(i, i, 20);
        }
        check.due("count(0) with all", desk.count(0), 9);
        check.refused("room(9, 30, 30) behind all", WRONG, () -> desk.room(9, 30, 30));
        for (int i : new int[] {0, 4, 8}) {
            check.refused("room(" + i + ", 30, 30) behind all", EARLY, () -> desk.room(i, 30, 30));
        }
    }

    private static void roomPoints() {
        check.sentence("2", "no such room or point");
        HouseDesk desk = new HouseDesk();
        for (int p : new int[] {-1, 32, 33, -32, LEAST, MOST}) {
            check.refused("room(0, " + p + ", 5)", WRONG, () -> desk.room(0, p, 5));
            check.refused("room(0, 5, " + p + ")", WRONG, () -> desk.room(0, 5, p));
            check.refused("room(0, " + p + ", " + p + ")", WRONG, () -> desk.room(0, p, p));
        }
        check.refused("way(0, 0)", WRONG, () -> desk.way(0, 0));
        desk.room(0, 0, 0);
        desk.room(1, 31, 31);
        desk.room(2, 0, 31);
        desk.room(3, 31, 0);
        check.due("count(0) with each end of both", desk.count(0), 4);
        check.refused("room(0, 32, 0), drawn already", WRONG, () -> desk.room(0, 32, 0));
    }

    private static void roomDrawn() {
        check.sentence("2", "IllegalStateException: it is drawn");
        HouseDesk desk = new HouseDesk();
        desk.room(4, 10, 0);
        check.refused("room(4, 10, 0)", EARLY, () -> desk.room(4, 10, 0));
        check.refused("room(4, 10, 9)", EARLY, () -> desk.room(4, 10, 9));
        check.due("count(0)", desk.count(0), 1);
        desk.room(0, 0, 0);
        desk.room(1, 20, 0);
        desk.room(2, 10, 9);
        desk.join(0, 1);
        check.due("plan(): 4 is where it was, on the join", Houses.plan(desk), 0, 0, 4, -1);
        desk.least(4, 2, 2);
        check.refused("room(4, 1, 1), wished already", EARLY, () -> desk.room(4, 1, 1));
        HouseDesk planned = Houses.triangle();
        planned.corners(0, 2, 1, 0);
        planned.least(0, 7, 8);
        check.refused("room(0, 1, 1), joined and wished", EARLY, () -> planned.room(0, 1, 1));
        check.due("plan() behind it", planned.plan(), 1);
        check.due("what was wished stays", Houses.rect(planned, 0), 0, 0, 7, 8);
    }

    private static void pointTaken() {
        check.sentence("2", "or another one has this point");
        HouseDesk desk = new HouseDesk();
        desk.room(0, 31, 0);
        desk.room(5, 7, 7);
        check.refused("room(1, 31, 0)", EARLY, () -> desk.room(1, 31, 0));
        check.refused("room(6, 7, 7)", EARLY, () -> desk.room(6, 7, 7));
        check.due("count(0)", desk.count(0), 2);
        check.refused("way(1, 1)", WRONG, () -> desk.way(1, 1));
        desk.room(1, 31, 1);
        desk.room(6, 8, 7);
        desk.room(7, 0, 31);
        check.due("count(0) with one number of the point, or both turned", desk.count(0), 5);
        desk.clear();
        desk.room(3, 7, 7);
        check.due("count(0) with a point that was taken before clear()", desk.count(0), 1);
    }

    private static void planTakenAway() {
        check.sentence("2", "(Whatever is drawn, named, wished or cleared takes the plan away.)");
        for (int k = 0; k < 6; k++) {
            HouseDesk desk = Houses.square(new int[] {0, 2});
            desk.corners(0, 1, 2, 3);
            Runnable[] changes = {() -> desk.room(8, 0, 0), () -> desk.join(3, 1), () -> desk.corners(0, 1, 2, 3),
                () -> desk.least(0, 1, 1), () -> desk.wall(0, 1), () -> desk.clear()};
            check.due("plan() before change " + k, desk.plan(), 1);
            changes[k].run();
            check.due("count(4) behind change " + k, desk.count(4), 0);
            check.refused("rect(0, 0) behind change " + k, NONE, () -> desk.rect(0, 0));
            check.refused("house(0) behind change " + k, NONE, () -> desk.house(0));
            check.refused("wallOf(0, 0) behind change " + k, NONE, () -> desk.wallOf(0, 0));
            check.refused("side(0, 0) behind change " + k, NONE, () -> desk.side(0, 0));
        }
    }

    /** Nothing is drawn, named or wished by a call that is refused, or by one that asks. */
    private static void planLeft() {
        check.sentence("2", "(Whatever is drawn, named, wished or cleared takes the plan away.)");
        HouseDesk desk = Houses.planned();
        Runnable[] early = {() -> desk.room(0, 0, 0), () -> desk.room(3, 5, 5), () -> desk.join(1, 0)};
        Runnable[] wrong = {() -> desk.room(9, 0, 0), () -> desk.join(0, 0), () -> desk.join(0, 3),
            () -> desk.corners(0, 2, 1, 3), () -> desk.least(0, 0, 1), () -> desk.least(3, 1, 1), () -> desk.wall(0, 21),
            () -> desk.wall(3, 1), () -> desk.rect(3, 0), () -> desk.house(3), () -> desk.wallOf(3, 0),
            () -> desk.side(0, 4), () -> desk.way(0, 3)};
        for (int k = 0; k < early.length; k++) {
            check.refused("early call " + k, EARLY, early[k]);
            check.due("count(4) behind early call " + k, desk.count(4), 1);
        }
        for (int k = 0; k < wrong.length; k++) {
            check.refused("wrong call " + k, WRONG, wrong[k]);
            check.due("count(4) behind wrong call " + k, desk.count(4), 1);
        }
        desk.way(0, 1);
        desk.wayRoom(0);
        desk.witness(0);
        desk.count(0);
        check.due("rect(0) behind all these", Houses.rect(desk, 0), 0, 0, 1, 2);
    }

    // Promise 3

    private static void joinNumbers() {
        check.sentence("3", "Draws a join: its number.");
        HouseDesk desk = Houses.draw(Houses.SQUARE, new int[0][]);
        check.due("join(3, 0)", desk.join(3, 0), 0);
        check.due("join(0, 1)", desk.join(0, 1), 1);
        check.refused("join(0, 3)", EARLY, () -> desk.join(0, 3));
        check.refused("join(2, 2)", WRONG, () -> desk.join(2, 2));
        check.due("join(2, 1) behind refused ones", desk.join(2, 1), 2);
        check.due("count(1)", desk.count(1), 3);
        desk.clear();
        desk.room(0, 0, 0);
        desk.room(3, 0, 1);
        check.due("join(0, 3) behind clear()", desk.join(0, 3), 0);
    }

    private static void joinOfOneRoom() {
        check.sentence("3", "IllegalArgumentException: i is j");
        HouseDesk desk = Houses.full();
        for (int i = 0; i < 9; i++) {
            int room = i;
            check.refused("join(i, i), 21 drawn", WRONG, () -> desk.join(room, room));
        }
        HouseDesk one = new HouseDesk();
        one.room(8, 3, 3);
        check.refused("join(8, 8)", WRONG, () -> one.join(8, 8));
        check.refused("join(0, 0), not drawn", WRONG, () -> one.join(0, 0));
        check.due("count(1)", one.count(1), 0);
    }

    private static void joinNotDrawn() {
        check.sentence("3", "or a room is not drawn");
        HouseDesk desk = Houses.triangle();
        for (int i : new int[] {-1, 3, 8, 9, 32, LEAST, MOST}) {
            check.refused("join(" + i + ", 0)", WRONG, () -> desk.join(i, 0));
            check.refused("join(0, " + i + ")", WRONG, () -> desk.join(0, i));
        }
        check.due("count(1)", desk.count(1), 3);
        check.due("way(0, 1)", desk.way(0, 1), 2);
        HouseDesk full = new HouseDesk();
        drawTwentyOne(full);
        check.refused("join(0, 8), 21 drawn", WRONG, () -> full.join(0, 8));
    }

    /** Joins that may cross, among rooms 0 to 6: all there are. */
    private static void drawTwentyOne(HouseDesk desk) {
        for (int i = 0; i < 7; i++) {
            desk.room(i, i, i * i % 32);
            for (int j = 0; j < i; j++) {
                desk.join(j, i);
            }
        }
    }

    private static void joinedAlready() {
        check.sentence("3", "IllegalStateException: they are joined (from either to the other)");
        HouseDesk desk = Houses.draw(Houses.SQUARE, new int[][] {{2, 0}, {1, 3}});
        check.refused("join(2, 0)", EARLY, () -> desk.join(2, 0));
        check.refused("join(0, 2)", EARLY, () -> desk.join(0, 2));
        check.refused("join(1, 3)", EARLY, () -> desk.join(1, 3));
        check.refused("join(3, 1)", EARLY, () -> desk.join(3, 1));
        check.due("count(1)", desk.count(1), 2);
        desk.clear();
        desk.room(0, 1, 1);
        desk.room(2, 2, 2);
        check.due("join(0, 2), joined before clear()", desk.join(0, 2), 0);
    }

    private static void joinsFull() {
        check.sentence("3", "or there are 21");
        HouseDesk desk = new HouseDesk();
        drawTwentyOne(desk);
        desk.room(7, 30, 30);
        check.due("count(1)", desk.count(1), 21);
        check.refused("join(0, 7)", EARLY, () -> desk.join(0, 7));
        check.refused("join(1, 0)", EARLY, () -> desk.join(1, 0));
        check.due("count(1) behind refused ones", desk.count(1), 21);
        check.due("way(0, 7)", desk.way(0, 7), 0);
        desk.wall(20, 20);
        desk.clear();
        Houses.drawFull(desk);
        check.due("count(1) when full again", desk.count(1), 21);
        HouseDesk twenty = Houses.draw(new int[][] {{0, 0, 0}, {1, 1, 5}, {2, 9, 2}, {3, 4, 4}, {4, 9, 9}, {5, 20, 1},
            {6, 3, 20}}, new int[0][]);
        for (int i = 0; i < 7; i++) {
            for (int j = 0; j < i; j++) {
                if (i + j < 11) {
                    twenty.join(i, j);
                }
            }
        }
        check.due("join(6, 5) as the last one", twenty.join(6, 5), 20);
    }

    // Promise 4

    private static void cornersAnew() {
        check.sentence("4", "Names the corners (told anew, these count).");
        HouseDesk desk = Houses.draw(Houses.SQUARE, new int[0][]);
        desk.corners(3, 0, 1, 2);
        Houses.add(desk, new int[0][], new int[][] {{0, 1}, {1, 2}, {2, 3}, {3, 0}, {0, 2}});
        check.due("plan() with corners that were named before the joins", desk.plan(), 1);
        check.due("rect of 3, the first corner", Houses.rect(desk, 3), 0, 2, 1, 3);
        desk.corners(0, 0, 0, 0);
        check.due("plan() with all corners in one room", desk.plan(), 4);
        desk.corners(0, 1, 2, 3);
        check.due("plan() with corners named anew", desk.plan(), 1);
        check.due("rect of 3, the last corner", Houses.rect(desk, 3), 0, 0, 1, 1);
    }

    private static void cornersNotDrawn() {
        check.sentence("4", "IllegalArgumentException: one is not drawn.");
        HouseDesk desk = Houses.square(new int[] {0, 2});
        for (int i : new int[] {-1, 4, 8, 9, 32, LEAST, MOST}) {
            check.refused("corners(" + i + ", 1, 2, 3)", WRONG, () -> desk.corners(i, 1, 2, 3));
            check.refused("corners(0, " + i + ", 2, 3)", WRONG, () -> desk.corners(0, i, 2, 3));
            check.refused("corners(0, 1, " + i + ", 3)", WRONG, () -> desk.corners(0, 1, i, 3));
            check.refused("corners(0, 1, 2, " + i + ")", WRONG, () -> desk.corners(0, 1, 2, i));
        }
        check.due("plan(), still not named", desk.plan(), 4);
        desk.corners(3, 0, 1, 2);
        check.refused("corners(0, 1, 2, 4)", WRONG, () -> desk.corners(0, 1, 2, 4));
        check.due("plan() behind it", desk.plan(), 1);
        check.due("rect of 3, the first corner as before", Houses.rect(desk, 3), 0, 2, 1, 3);
    }

    // Promise 5

    private static void leastAtFirst() {
        check.sentence("5", "A width and a height (1 .. 50) for a room (1 and 1 at first).");
        HouseDesk desk = Houses.planned();
        check.due("house at first", Houses.house(desk), 2, 2, 1);
        desk.least(0, 50, 1);
        desk.least(2, 1, 50);
        desk.plan();
        check.due("rect of 0, 50 wide", Houses.rect(desk, 0), 0, 0, 50, 51);
        check.due("rect of 2, 50 high", Houses.rect(desk, 2), 50, 1, 51, 51);
        desk.least(0, 1, 50);
        desk.least(2, 50, 1);
        desk.plan();
        check.due("house, told anew", Houses.house(desk), 51, 50, 51 * 50 - 101);
        desk.least(0, 1, 1);
        desk.least(2, 1, 1);
        desk.plan();
        check.due("house as at first", Houses.house(desk), 2, 2, 1);
    }

    private static void leastOtherNumber() {
        check.sentence("5", "IllegalArgumentException: another number");
        HouseDesk desk = Houses.planned();
        desk.least(0, 7, 9);
        for (int n : new int[] {0, 51, -1, -50, LEAST, MOST}) {
            check.refused("least(0, " + n + ", 3)", WRONG, () -> desk.least(0, n, 3));
            check.refused("least(0, 3, " + n + ")", WRONG, () -> desk.least(0, 3, n));
            check.refused("least(0, " + n + ", " + n + ")", WRONG, () -> desk.least(0, n, n));
        }
        desk.plan();
        check.due("rect of 0 as it was wished before", Houses.rect(desk, 0), 0, 0, 7, 9);
        check.due("house as it was wished before", Houses.house(desk), 8, 9, 7);
    }

    private static void leastNotDrawn() {
        check.sentence("5", "or it is not drawn");
        HouseDesk desk = Houses.planned();
        for (int i : new int[] {-1, 3, 8, 9, 32, LEAST, MOST}) {
            check.refused("least(" + i + ", 1, 1)", WRONG, () -> desk.least(i, 1, 1));
            check.refused("least(" + i + ", 50, 50)", WRONG, () -> desk.least(i, 50, 50));
        }
        check.due("house as it was", Houses.house(desk), 2, 2, 1);
        desk.clear();
        check.refused("least(0, 1, 1) behind clear()", WRONG, () -> desk.least(0, 1, 1));
        Houses.add(desk, new int[][] {{3, 5, 5}, {1, 25, 5}, {2, 15, 25}}, new int[][] {{3, 1}, {1, 2}, {2, 3}});
        desk.corners(3, 2, 1, 3);
        desk.plan();
        check.due("house with 3, which had been refused", Houses.house(desk), 2, 2, 1);
    }

    // Promise 6

    private static void wallAtFirst() {
        check.sentence("6", "A wall (1 .. 20) for a join.");
        HouseDesk desk = Houses.planned();
        check.due("wallOf(0) at first", Houses.wallOf(desk, 0), 0, 0, 1);
        desk.wall(0, 20);
        desk.plan();
        check.due("wallOf(0) with 20", Houses.wallOf(desk, 0), 0, 0, 20);
        desk.wall(0, 1);
        desk.wall(2, 20);
        desk.plan();
        check.due("wallOf(0) with 1 again", Houses.wallOf(desk, 0), 0, 0, 1);
        check.due("wallOf(2) with 20", Houses.wallOf(desk, 2), 1, 1, 21);
    }

    private static void wallOtherNumber() {
        check.sentence("6", "IllegalArgumentException: another number");
        HouseDesk desk = Houses.planned();
        desk.wall(1, 5);
        for (int n : new int[] {0, 21, -1, 50, -20, LEAST, MOST}) {
            check.refused("wall(1, " + n + ")", WRONG, () -> desk.wall(1, n));
        }
        desk.plan();
        check.due("wallOf(1) as it was wished before", Houses.wallOf(desk, 1), 2, 1, 6);
    }

    private static void wallNoJoin() {
        check.sentence("6", "or no such join");
        HouseDesk desk = Houses.planned();
        for (int e : new int[] {-1, 3, 20, 21, LEAST, MOST}) {
            check.refused("wall(" + e + ", 1)", WRONG, () -> desk.wall(e, 1));
        }
        HouseDesk full = Houses.full();
        full.wall(20, 20);
        check.refused("wall(21, 1) with 21 joins", WRONG, () -> full.wall(21, 1));
        full.clear();
        check.refused("wall(0, 1) behind clear()", WRONG, () -> full.wall(0, 1));
        HouseDesk later = Houses.square();
        check.refused("wall(4, 9) before join 4", WRONG, () -> later.wall(4, 9));
        later.join(0, 2);
        later.corners(0, 1, 2, 3);
        later.plan();
        check.due("house with join 4, which had been refused", Houses.house(later), 2, 3, 2);
    }

    // Promise 7

    private static void clearedAll() {
        check.sentence("7", "Nothing is drawn any more");
        HouseDesk desk = new HouseDesk();
        desk.clear();
        check.due("counts, nothing had been drawn", Houses.counts(desk), 0, 0, 0, 0, 0);
        Houses.drawFull(desk);
        for (int e = 0; e < 21; e++) {
            desk.wall(e, 20);
        }
        for (int i = 0; i < 9; i++) {
            desk.least(i, 50, 50);
        }
        desk.clear();
        check.due("counts behind a full sketch", Houses.counts(desk), 0, 0, 0, 0, 0);
        for (int i = 0; i < 9; i++) {
            int room = i;
            check.refused("way(i, i)", WRONG, () -> desk.way(room, room));
        }
        check.due("plan()", desk.plan(), 2);
        desk.clear();
        Houses.add(desk, Houses.SQUARE, new int[][] {{0, 1}, {1, 2}, {2, 3}, {3, 0}, {0, 2}});
        check.due("way(1, 3), joined no more", desk.way(1, 3), 3);
        desk.corners(0, 1, 2, 3);
        check.due("plan() anew", desk.plan(), 1);
        check.due("house, wished no more", Houses.house(desk), 2, 3, 2);
    }

    private static void clearedCorners() {
        check.sentence("7", "no corners are named");
        HouseDesk desk = Houses.planned();
        desk.clear();
        Houses.add(desk, new int[][] {{0, 5, 5}, {1, 25, 5}, {2, 15, 25}}, new int[][] {{0, 1}, {1, 2}, {2, 0}});
        check.due("plan() of the same sketch", desk.plan(), 4);
    }

    private static void clearedStays() {
        check.sentence("7", "(what witness(), wayRoom() and count(2), count(3) tell stays, as with any change)");
        HouseDesk loose = Houses.triangle();
        loose.corners(0, 1, 1, 0);
        loose.plan();
        loose.way(2, 1);
        Runnable[] changes = {() -> loose.least(0, 2, 2), () -> loose.wall(0, 2), () -> loose.corners(0, 2, 1, 1),
            () -> loose.room(3, 0, 31), () -> loose.join(3, 0), () -> loose.clear(), () -> loose.room(0, 1, 1)};
        for (int k = 0; k < changes.length; k++) {
            changes[k].run();
            int[] witness = {loose.witness(0), loose.witness(1), loose.witness(2), loose.witness(3)};
            check.due("witnesses behind change " + k, witness, 0, 1, 9, -1);
            check.due("wayRoom() behind change " + k, Houses.wayRooms(loose, 3), 2, 1, -1);
            check.due("count(2) behind change " + k, loose.count(2), 3);
            check.due("count(3) behind change " + k, loose.count(3), 1);
        }
    }
}
