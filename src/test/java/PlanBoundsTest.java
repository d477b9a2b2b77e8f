/** The boundary cases of planning: "Terms" from the walks to the three nodes, promises 8 and 9. */
public final class PlanBoundsTest {
    private static final Check check = new Check();
    private static final int[][] NONE = {};
    /** Rooms 0 to 4 on one line that goes up by 3 for each 6. */
    private static final int[][] LINE = {{0, 0, 0}, {1, 6, 3}, {2, 12, 6}, {3, 18, 9}, {4, 24, 12}};

    public static void main(String[] args) {
        check.each(PlanBoundsTest::goesOnClockwise, PlanBoundsTest::turnsBack, PlanBoundsTest::outlineBegins,
            PlanBoundsTest::outlineFirstJoin, PlanBoundsTest::outlineEnds, PlanBoundsTest::outlineClockwise,
            PlanBoundsTest::innerFaces, PlanBoundsTest::joinsShareAPoint, PlanBoundsTest::joinsShareAnEnd,
            PlanBoundsTest::roomOnAJoin, PlanBoundsTest::fewRooms, PlanBoundsTest::notAllJoined,
            PlanBoundsTest::outlineTwice, PlanBoundsTest::wideFace, PlanBoundsTest::cornersNotNamed,
            PlanBoundsTest::cornersAllTheSame, PlanBoundsTest::cornersNotOfTheOutline, PlanBoundsTest::cornersInOrder,
            PlanBoundsTest::cornersShared, PlanBoundsTest::sidesFromCornerToCorner, PlanBoundsTest::sidesBothEnds,
            PlanBoundsTest::sidesJoined, PlanBoundsTest::eachToEach, PlanBoundsTest::threeRooms,
            PlanBoundsTest::sideWithTwoRooms, PlanBoundsTest::sideFromFirstToSecond, PlanBoundsTest::twoSides,
            PlanBoundsTest::inThisOrder, PlanBoundsTest::answers, PlanBoundsTest::witnessOfJoins,
            PlanBoundsTest::witnessOfARoom, PlanBoundsTest::witnessOfAFace, PlanBoundsTest::witnessOfNodes,
            PlanBoundsTest::nodesOfTheSides, PlanBoundsTest::witnessOtherNumber, PlanBoundsTest::witnessOfNothing);
        check.end();
    }

    private static void judge(String what, int[][] rooms, int[][] joins, int... want) {
        check.due(what, Houses.plan(Houses.draw(rooms, joins)), want);
    }

    private static int planWith(HouseDesk desk, int a, int b, int c, int d) {
        desk.corners(a, b, c, d);
        return desk.plan();
    }

    private static void judgeCorners(HouseDesk desk, int a, int b, int c, int d, int... want) {
        desk.corners(a, b, c, d);
        check.due("corners " + a + ", " + b + ", " + c + ", " + d, Houses.plan(desk), want);
    }

    // Terms: the walks

    private static void goesOnClockwise() {
        check.sentence("Terms", "behind a join by which a room is come to, a walk goes on by the one that comes first, clockwise"
            + " around the room, behind that one");
        int[][] cross = {{0, 15, 31}, {1, 31, 15}, {2, 15, 0}, {3, 0, 15}, {4, 15, 15}};
        int[][] spokes = {{4, 2}, {4, 0}, {4, 3}, {4, 1}, {0, 1}, {1, 2}, {2, 3}, {3, 0}};
        HouseDesk straight = Houses.draw(cross, spokes);
        check.due("plan() with joins straight to each side", planWith(straight, 0, 1, 2, 3), 1);
        check.due("counts", Houses.counts(straight), 5, 8, 4, 4, 1);
        HouseDesk opposite = Houses.draw(cross, new int[][] {{0, 1}, {1, 2}, {2, 3}, {3, 0}, {4, 1}, {4, 3}});
        check.due("plan() with two joins that go straight on", Houses.plan(opposite), 3, 0, 1, 3);
        check.due("counts", Houses.counts(opposite), 5, 6, 4, 2, 0);
        HouseDesk narrow = Houses.draw(new int[][] {{0, 0, 0}, {1, 30, 31}, {2, 31, 31}, {3, 31, 30}},
            new int[][] {{0, 2}, {3, 0}, {0, 1}, {1, 2}, {2, 3}});
        check.due("plan() with joins close to one another", planWith(narrow, 0, 1, 2, 3), 1);
        check.due("counts", Houses.counts(narrow), 4, 5, 4, 2, 1);
    }

    private static void turnsBack() {
        check.sentence("Terms", "(by itself, if it is the only one)");
        int[][] rooms = {{0, 0, 0}, {1, 0, 30}, {2, 30, 0}, {3, 5, 5}, {4, 9, 9}};
        HouseDesk one = Houses.draw(rooms, new int[][] {{0, 1}, {1, 2}, {2, 0}, {3, 0}, {4, 3}});
        check.due("plan() with a tail of two joins within", Houses.plan(one), 3, 0, 1, 2);
        check.due("counts", Houses.counts(one), 5, 5, 3, 1, 0);
        judge("a tail outside", new int[][] {{0, 0, 0}, {1, 0, 20}, {2, 20, 0}, {3, 30, 30}},
            new int[][] {{0, 1}, {1, 2}, {2, 0}, {3, 2}}, 2, -1, -1, -1);
        judge("a tail to the west, where the outline begins", new int[][] {{0, 5, 0}, {1, 5, 20}, {2, 20, 0}, {3, 0, 9}},
            new int[][] {{0, 1}, {1, 2}, {2, 0}, {3, 1}}, 2, -1, -1, -1);
    }

    private static void outlineBegins() {
        check.sentence("Terms", "The OUTLINE begins at the room with the least x, of these the least y");
        HouseDesk desk = Houses.draw(new int[][] {{0, 0, 16}, {1, 0, 0}, {2, 0, 31}, {3, 31, 16}},
            new int[][] {{0, 1}, {0, 2}, {0, 3}, {1, 3}, {2, 3}});
        check.due("plan() with three rooms at the least x", desk.plan(), 4);
        check.due("counts", Houses.counts(desk), 4, 5, 4, 2, 0);
        check.due("plan() from the lowest on", planWith(desk, 1, 0, 2, 3), 1);
        HouseDesk last = Houses.draw(new int[][] {{8, 0, 9}, {5, 20, 0}, {2, 20, 20}}, new int[][] {{8, 5}, {5, 2}, {2, 8}});
        check.due("plan() from room 8 on", planWith(last, 8, 2, 5, 8), 1);
    }

    private static void outlineFirstJoin() {
        check.sentence("Terms", "with the join that comes first, clockwise, behind the direction straight to the west");
        int[][] fan = {{0, 0, 16}, {3, 10, 31}, {2, 20, 20}, {4, 20, 10}, {1, 10, 0}};
        HouseDesk desk = Houses.draw(fan, new int[][] {{0, 4}, {0, 2}, {0, 1}, {0, 3}, {3, 2}, {2, 4}, {4, 1}});
        check.due("plan() of a fan", planWith(desk, 0, 3, 2, 1), 1);
        check.due("counts", Houses.counts(desk), 5, 7, 5, 3, 1);
        HouseDesk turned = Houses.draw(new int[][] {{0, 0, 16}, {1, 10, 31}, {2, 20, 20}, {3, 20, 10}, {4, 10, 0}},
            new int[][] {{0, 1}, {0, 2}, {0, 3}, {0, 4}, {1, 2}, {2, 3}, {3, 4}});
        check.due("plan() of a fan, its rooms clockwise", planWith(turned, 0, 1, 2, 4), 1);
        check.due("counts", Houses.counts(turned), 5, 7, 5, 3, 1);
        HouseDesk north = Houses.draw(new int[][] {{0, 0, 0}, {1, 0, 31}, {2, 1, 30}, {3, 31, 0}},
            new int[][] {{0, 2}, {0, 1}, {1, 2}, {2, 3}, {3, 0}});
        check.due("plan() with a join straight to the north", planWith(north, 0, 1, 2, 3), 1);
        check.due("counts", Houses.counts(north), 4, 5, 4, 2, 1);
    }

    private static void outlineEnds() {
        check.sentence("Terms", "and ends when that would come again");
        judge("two triangles at the room where it begins",
            new int[][] {{0, 0, 15}, {1, 10, 30}, {2, 12, 20}, {3, 12, 10}, {4, 10, 0}},
            new int[][] {{0, 1}, {1, 2}, {2, 0}, {0, 3}, {3, 4}, {4, 0}}, 2, -1, -1, -1);
        HouseDesk nine = Houses.ring();
        nine.plan();
        check.due("count(2) with eight rooms around", nine.count(2), 8);
    }

    private static void outlineClockwise() {
        check.sentence("Terms", "so it goes clockwise around all");
        HouseDesk desk = Houses.square(new int[] {0, 2});
        check.due("plan() clockwise", planWith(desk, 0, 1, 2, 3), 1);
        check.due("plan() the other way round", planWith(desk, 0, 3, 2, 1), 4);
        check.due("plan() of three, clockwise", planWith(Houses.triangle(), 0, 2, 1, 1), 1);
        check.due("plan() of three, the other way round", planWith(Houses.triangle(), 0, 1, 2, 2), 4);
    }

    private static void innerFaces() {
        check.sentence("Terms", "Each other walk is an INNER face.");
        HouseDesk[] desks = {Houses.triangle(), Houses.square(), Houses.square(new int[] {0, 2}), Houses.wheel(),
            Houses.ring(), Houses.full()};
        int[] faces = {1, 1, 2, 4, 8, 13};
        for (int k = 0; k < desks.length; k++) {
            desks[k].plan();
            check.due("count(3) of sketch " + k, desks[k].count(3), faces[k]);
        }
    }

    // Terms: 0

    private static void joinsShareAPoint() {
        check.sentence("Terms", "0: two joins that share a point which is not an end of both");
        judge("they cross", Houses.SQUARE, new int[][] {{0, 2}, {3, 1}}, 0, 0, 1, -1);
        judge("an end of the second lies on the first", LINE_AND_FIVE, new int[][] {{0, 4}, {5, 2}}, 0, 0, 1, -1);
        judge("an end of the first lies on the second", LINE_AND_FIVE, new int[][] {{5, 2}, {0, 4}}, 0, 0, 1, -1);
        judge("one room is an end of both, one goes on", LINE, new int[][] {{0, 1}, {4, 0}}, 0, 0, 1, -1);
        judge("they overlap", LINE, new int[][] {{0, 2}, {1, 3}}, 0, 0, 1, -1);
        judge("one lies within the other", LINE, new int[][] {{4, 0}, {1, 2}}, 0, 0, 1, -1);
        judge("they cross by little", new int[][] {{0, 0, 0}, {1, 31, 30}, {2, 1, 1}, {3, 30, 29}},
            new int[][] {{0, 1}, {2, 3}}, 0, 0, 1, -1);
        judge("they cross at a flat angle", new int[][] {{0, 0, 0}, {1, 31, 1}, {2, 0, 1}, {3, 31, 0}},
            new int[][] {{0, 1}, {2, 3}}, 0, 0, 1, -1);
    }

    private static final int[][] LINE_AND_FIVE = {{0, 0, 0}, {2, 12, 6}, {4, 24, 12}, {5, 3, 30}};

    private static void joinsShareAnEnd() {
        check.sentence("Terms", "which is not an end of both");
        judge("straight on", LINE, new int[][] {{0, 1}, {1, 2}, {2, 3}, {3, 4}}, 2, -1, -1, -1);
        judge("apart on one line", LINE, new int[][] {{0, 1}, {3, 4}}, 2, -1, -1, -1);
        judge("at a sharp angle", new int[][] {{0, 0, 0}, {1, 31, 30}, {2, 30, 29}}, new int[][] {{0, 1}, {0, 2}}, 2, -1, -1, -1);
        judge("one ends just before the other", new int[][] {{0, 0, 5}, {1, 31, 5}, {2, 9, 6}, {3, 9, 31}},
            new int[][] {{0, 1}, {3, 2}}, 2, -1, -1, -1);
    }

    private static void roomOnAJoin() {
        check.sentence("Terms", "or a room on a join that is not an end of it");
        judge("in the middle", LINE, new int[][] {{1, 3}}, 0, 0, 2, -1);
        judge("beside an end", new int[][] {{0, 7, 0}, {1, 7, 31}, {2, 7, 30}}, new int[][] {{0, 1}}, 0, 0, 2, -1);
        judge("behind an end", new int[][] {{0, 7, 0}, {1, 7, 29}, {2, 7, 30}}, new int[][] {{0, 1}}, 2, -1, -1, -1);
        judge("before an end, on a level", new int[][] {{0, 1, 4}, {1, 31, 4}, {2, 0, 4}}, new int[][] {{0, 1}}, 2, -1, -1, -1);
        judge("close by", new int[][] {{0, 0, 0}, {1, 31, 30}, {2, 30, 29}}, new int[][] {{0, 1}}, 2, -1, -1, -1);
        judge("its ends", LINE, new int[][] {{0, 1}}, 2, -1, -1, -1);
    }

    // Terms: 2 and 3

    private static void fewRooms() {
        check.sentence("Terms", "2: fewer than three rooms");
        judge("none", NONE, NONE, 2, -1, -1, -1);
        judge("one", new int[][] {{8, 31, 31}}, NONE, 2, -1, -1, -1);
        judge("two", new int[][] {{0, 0, 0}, {8, 31, 31}}, NONE, 2, -1, -1, -1);
        judge("two that are joined", new int[][] {{0, 0, 0}, {8, 31, 31}}, new int[][] {{8, 0}}, 2, -1, -1, -1);
        check.due("three", planWith(Houses.triangle(), 0, 2, 1, 1), 1);
    }

    private static void notAllJoined() {
        check.sentence("Terms", "rooms that are not all joined to one another by some way");
        int[][] rooms = {{0, 0, 0}, {1, 0, 31}, {2, 31, 0}, {3, 5, 5}, {4, 5, 9}, {5, 9, 5}};
        judge("three without a join", new int[][] {{0, 0, 0}, {1, 9, 0}, {2, 0, 9}}, NONE, 2, -1, -1, -1);
        judge("one alone outside", new int[][] {{0, 0, 0}, {1, 0, 9}, {2, 9, 0}, {8, 31, 31}},
            new int[][] {{0, 1}, {1, 2}, {2, 0}}, 2, -1, -1, -1);
        judge("one alone within", new int[][] {{0, 0, 0}, {1, 0, 31}, {2, 31, 0}, {8, 9, 9}},
            new int[][] {{0, 1}, {1, 2}, {2, 0}}, 2, -1, -1, -1);
        judge("one alone at the west", new int[][] {{5, 1, 0}, {1, 1, 31}, {2, 31, 0}, {0, 0, 9}},
            new int[][] {{5, 1}, {1, 2}, {2, 5}}, 2, -1, -1, -1);
        judge("three within three", rooms, new int[][] {{0, 1}, {1, 2}, {2, 0}, {3, 4}, {4, 5}, {5, 3}}, 2, -1, -1, -1);
        judge("joined by one way", rooms, new int[][] {{0, 1}, {1, 2}, {2, 0}, {3, 4}, {4, 5}, {5, 3}, {0, 3}}, 3, 0, 1, 2);
        int[][] points = new int[9][];
        int[][] turn = new int[9][];
        for (int k = 0; k < 9; k++) {
            points[k] = new int[] {k * 4 % 9, ROUND[k][0], ROUND[k][1]};
            turn[k] = new int[] {k * 4 % 9, (k + 1) * 4 % 9};
        }
        judge("all by one long way round", points, turn, 3, 0, 1, 2);
    }

    /** Nine points around the field. */
    private static final int[][] ROUND = {{0, 16}, {4, 4}, {16, 0}, {24, 3}, {30, 12}, {31, 20}, {24, 30}, {14, 31}, {3, 26}};

    private static void outlineTwice() {
        check.sentence("Terms", "or the outline comes to a room twice");
        judge("three in a row", new int[][] {{0, 0, 0}, {1, 9, 1}, {2, 18, 0}}, new int[][] {{0, 1}, {1, 2}}, 2, -1, -1, -1);
        judge("two triangles at one room", new int[][] {{0, 0, 0}, {1, 0, 20}, {2, 10, 10}, {3, 20, 20}, {4, 20, 0}},
            new int[][] {{0, 1}, {1, 2}, {2, 0}, {2, 3}, {3, 4}, {4, 2}}, 2, -1, -1, -1);
        judge("two triangles and a join between them",
            new int[][] {{0, 0, 0}, {1, 0, 20}, {2, 9, 10}, {3, 19, 10}, {4, 28, 20}, {5, 28, 0}},
            new int[][] {{0, 1}, {1, 2}, {2, 0}, {2, 3}, {3, 4}, {4, 5}, {5, 3}}, 2, -1, -1, -1);
    }

    private static void wideFace() {
        check.sentence("Terms", "3: an inner face with more than three rooms");
        judge("four", Houses.SQUARE, new int[][] {{0, 1}, {1, 2}, {2, 3}, {3, 0}}, 3, 0, 1, 2);
        int[][] points = new int[9][];
        int[][] turn = new int[9][];
        for (int k = 0; k < 9; k++) {
            points[k] = new int[] {8 - k, ROUND[k][0], ROUND[k][1]};
            turn[k] = new int[] {k, (k + 1) % 9};
        }
        judge("nine", points, turn, 3, 0, 1, 2);
        judge("one of four among three of three", new int[][] {{0, 5, 25}, {1, 25, 25}, {2, 25, 5}, {3, 5, 5}, {4, 15, 14}},
            new int[][] {{0, 1}, {1, 2}, {2, 3}, {3, 0}, {4, 0}, {4, 1}, {4, 3}}, 3, 1, 2, 3);
        judge("three, and one that goes into it", new int[][] {{0, 0, 0}, {1, 0, 31}, {2, 31, 0}, {3, 5, 5}},
            new int[][] {{0, 1}, {1, 2}, {2, 0}, {2, 3}}, 3, 0, 1, 2);
        judge("three in each", Houses.SQUARE, new int[][] {{0, 1}, {1, 2}, {2, 3}, {3, 0}, {3, 1}}, 4, -1, -1, -1);
    }

    // Terms: 4

    private static void cornersNotNamed() {
        check.sentence("Terms", "4: the corners were not named");
        HouseDesk desk = Houses.triangle();
        check.due("plan() without", Houses.plan(desk), 4, -1, -1, -1);
        check.due("plan() with", planWith(desk, 0, 2, 1, 1), 1);
        desk.clear();
        Houses.add(desk, new int[][] {{0, 5, 5}, {1, 25, 5}, {2, 15, 25}}, new int[][] {{0, 1}, {1, 2}, {2, 0}});
        check.due("plan() without, named before clear()", Houses.plan(desk), 4, -1, -1, -1);
    }

    private static void cornersAllTheSame() {
        check.sentence("Terms", "or are all the same room");
        HouseDesk desk = Houses.triangle();
        for (int i = 0; i < 3; i++) {
            judgeCorners(desk, i, i, i, i, 4, -1, -1, -1);
        }
    }

    private static void cornersNotOfTheOutline() {
        check.sentence("Terms", "or are not rooms of the outline");
        HouseDesk desk = Houses.wheel();
        for (int k = 0; k < 4; k++) {
            int[] turn = {k, (k + 1) % 4, (k + 2) % 4, (k + 3) % 4};
            judgeCorners(desk, 4, turn[1], turn[2], turn[3], 4, -1, -1, -1);
            judgeCorners(desk, turn[0], 4, turn[2], turn[3], 4, -1, -1, -1);
            judgeCorners(desk, turn[0], turn[1], 4, turn[3], 4, -1, -1, -1);
            judgeCorners(desk, turn[0], turn[1], turn[2], 4, 4, -1, -1, -1);
        }
        judgeCorners(desk, 4, 4, 4, 4, 4, -1, -1, -1);
        judgeCorners(desk, 4, 4, 0, 0, 4, -1, -1, -1);
        judgeCorners(desk, 0, 1, 2, 3, 1, -1, -1, -1);
    }

    private static void cornersInOrder() {
        check.sentence("Terms", "to which it comes, from a on, in this order in one turn");
        HouseDesk desk = Houses.wheel();
        for (int a = 0; a < 4; a++) {
            for (int b = 0; b < 4; b++) {
                for (int c = 0; c < 4; c++) {
                    for (int d = 0; d < 4; d++) {
                        boolean allDiffer = new java.util.TreeSet<>(java.util.List.of(a, b, c, d)).size() == 4;
                        if (allDiffer) {
                            boolean inTurn = b == (a + 1) % 4 && c == (a + 2) % 4;
                            judgeCorners(desk, a, b, c, d, inTurn ? 1 : 4, -1, -1, -1);
                        }
                    }
                }
            }
        }
    }

    private static void cornersShared() {
        check.sentence("Terms", "(those that follow one another, also d and a, may be the same room)");
        HouseDesk desk = Houses.wheel();
        for (int r = 0; r < 4; r++) {
            int s = (r + 1) % 4;
            int t = (r + 2) % 4;
            judgeCorners(desk, r, r, s, t, 1, -1, -1, -1);
            judgeCorners(desk, r, s, s, t, 1, -1, -1, -1);
            judgeCorners(desk, r, s, t, t, 1, -1, -1, -1);
            judgeCorners(desk, r, s, t, r, 1, -1, -1, -1);
            judgeCorners(desk, r, r, t, t, 1, -1, -1, -1);
            judgeCorners(desk, r, t, t, r, 1, -1, -1, -1);
            judgeCorners(desk, r, s, r, t, 4, -1, -1, -1);
            judgeCorners(desk, s, r, t, r, 4, -1, -1, -1);
            judgeCorners(desk, r, t, r, t, 4, -1, -1, -1);
            judgeCorners(desk, r, r, r, t, 5, r, 11, 12);
            judgeCorners(desk, t, r, r, r, 5, r, 9, 12);
            judgeCorners(desk, r, t, r, r, 5, r, 9, 10);
            judgeCorners(desk, r, r, t, r, 5, r, 10, 11);
        }
    }

    // Terms: 5

    private static void sidesFromCornerToCorner() {
        check.sentence("Terms", "north with those from a to b, east from b to c, south from c to d, west from d to a");
        HouseDesk desk = Houses.ring();
        for (int turn = 0; turn < 4; turn++) {
            int a = 2 * turn;
            check.due("plan() with corner a in " + a, planWith(desk, a, (a + 2) % 8, (a + 4) % 8, (a + 6) % 8), 1);
            int[] sides = new int[4];
            sides[3 - turn] = 1;
            check.due("sides of 7, where the outline begins, with corner a in " + a, joinedSides(desk, 7), sides);
        }
        check.due("plan() with all but two rooms at the west", planWith(desk, 2, 3, 4, 4), 1);
        check.due("sides of 7", joinedSides(desk, 7), 0, 0, 0, 1);
        check.due("sides of 5", joinedSides(desk, 5), 0, 0, 0, 1);
        check.due("sides of 1", joinedSides(desk, 1), 0, 0, 0, 1);
    }

    private static void sidesJoined() {
        check.sentence("Terms", "and north and south with east and west");
        HouseDesk desk = Houses.wheel();
        judgeCorners(desk, 0, 1, 2, 0, 1, -1, -1, -1);
        judgeCorners(desk, 0, 1, 1, 2, 1, -1, -1, -1);
        judgeCorners(desk, 0, 0, 1, 2, 1, -1, -1, -1);
        judgeCorners(desk, 0, 1, 2, 2, 1, -1, -1, -1);
        judgeCorners(desk, 0, 0, 2, 0, 5, 0, 10, 11);
        judgeCorners(desk, 0, 2, 0, 0, 5, 0, 9, 10);
        judgeCorners(desk, 2, 0, 0, 0, 5, 0, 9, 12);
        judgeCorners(desk, 0, 0, 0, 2, 5, 0, 11, 12);
    }

    private static void eachToEach() {
        check.sentence("Terms", "then there are three nodes that are joined to one another, each to each, and bound no face");
        judgeCorners(Houses.wheel(), 0, 1, 2, 3, 1, -1, -1, -1);
        HouseDesk fan = Houses.draw(new int[][] {{0, 0, 16}, {1, 10, 31}, {2, 20, 20}, {3, 20, 10}, {4, 10, 0}},
            new int[][] {{0, 1}, {0, 2}, {0, 3}, {0, 4}, {1, 2}, {2, 3}, {3, 4}});
        judgeCorners(fan, 0, 1, 4, 0, 1, -1, -1, -1);
        judgeCorners(fan, 0, 2, 4, 0, 5, 0, 2, 9);
        judgeCorners(fan, 0, 1, 3, 0, 5, 0, 3, 11);
    }

    private static void sidesBothEnds() {
        check.sentence("Terms", "(both ends, too; just that room, if both are the same)");
        HouseDesk desk = Houses.square(new int[] {0, 2});
        planWith(desk, 0, 1, 2, 3);
        check.due("sides of corner a", joinedSides(desk, 0), 1, 0, 0, 1);
        check.due("sides of corner b", joinedSides(desk, 1), 1, 1, 0, 0);
        check.due("sides of corner c", joinedSides(desk, 2), 0, 1, 1, 0);
        check.due("sides of corner d", joinedSides(desk, 3), 0, 0, 1, 1);
        planWith(desk, 1, 1, 2, 3);
        check.due("a is b: sides of 1", joinedSides(desk, 1), 1, 1, 0, 1);
        check.due("a is b: sides of 0", joinedSides(desk, 0), 0, 0, 0, 1);
        planWith(desk, 0, 2, 2, 3);
        check.due("b is c: a chord from end to end of the north", Houses.plan(desk), 5, 0, 2, 9);
        planWith(desk, 1, 2, 3, 1);
        check.due("d is a: sides of 1", joinedSides(desk, 1), 1, 0, 1, 1);
        check.due("d is a: sides of 0", joinedSides(desk, 0), 0, 0, 1, 0);
    }

    private static int[] joinedSides(HouseDesk desk, int i) {
        int[] sides = Houses.sides(desk, i);
        for (int k = 0; k < 4; k++) {
            sides[k] = Math.min(sides[k], 1);
        }
        return sides;
    }

    private static void threeRooms() {
        check.sentence("Terms", "they are no inner face");
        HouseDesk around = Houses.triangle();
        Houses.add(around, new int[][] {{3, 15, 12}}, new int[][] {{3, 0}, {3, 1}, {3, 2}});
        judgeCorners(around, 0, 2, 1, 1, 5, 0, 1, 2);
        judgeCorners(Houses.triangle(), 0, 2, 1, 1, 1, -1, -1, -1);
        HouseDesk within = Houses.wheel();
        Houses.add(within, new int[][] {{8, 14, 8}}, new int[][] {{8, 2}, {8, 3}, {8, 4}});
        judgeCorners(within, 0, 1, 2, 3, 5, 2, 3, 4);
    }

    private static void sideWithTwoRooms() {
        check.sentence("Terms", "not a side with two rooms of the outline that follow one another");
        HouseDesk desk = Houses.square(new int[] {0, 2});
        judgeCorners(desk, 0, 2, 2, 3, 5, 0, 2, 9);
        judgeCorners(desk, 3, 0, 2, 2, 5, 0, 2, 10);
        judgeCorners(desk, 2, 3, 0, 2, 5, 0, 2, 11);
        judgeCorners(desk, 2, 3, 0, 0, 5, 0, 2, 12);
        judgeCorners(desk, 0, 1, 2, 3, 1, -1, -1, -1);
        judgeCorners(desk, 3, 1, 2, 2, 1, -1, -1, -1);
    }

    private static void sideFromFirstToSecond() {
        check.sentence("Terms", "from its first corner to its second one");
        HouseDesk desk = Houses.triangle();
        judgeCorners(desk, 0, 1, 1, 0, 5, 0, 1, 9);
        judgeCorners(desk, 0, 0, 1, 1, 5, 0, 1, 10);
        judgeCorners(desk, 1, 0, 0, 1, 5, 0, 1, 11);
        judgeCorners(desk, 1, 1, 0, 0, 5, 0, 1, 12);
        judgeCorners(desk, 1, 2, 2, 1, 5, 1, 2, 9);
        judgeCorners(desk, 2, 2, 0, 0, 5, 0, 2, 10);
    }

    private static void twoSides() {
        check.sentence("Terms", "and not two sides beside one another with the corner between them");
        HouseDesk desk = Houses.ring();
        judgeCorners(desk, 0, 2, 4, 6, 1, -1, -1, -1);
        judgeCorners(desk, 5, 5, 5, 1, 5, 5, 11, 12);
        judgeCorners(desk, 1, 5, 5, 5, 5, 5, 9, 12);
        judgeCorners(desk, 5, 1, 5, 5, 5, 5, 9, 10);
        judgeCorners(desk, 5, 5, 1, 5, 5, 5, 10, 11);
        judgeCorners(desk, 5, 5, 1, 1, 1, -1, -1, -1);
    }

    private static void inThisOrder() {
        check.sentence("Terms", "PLANNING looks, in this order, for what stands against it.");
        judge("0 and 2", Houses.SQUARE, new int[][] {{0, 2}, {1, 3}}, 0, 0, 1, -1);
        judge("2 and 3", new int[][] {{0, 0, 0}, {1, 0, 20}, {2, 20, 20}, {3, 20, 0}, {4, 30, 30}},
            new int[][] {{0, 1}, {1, 2}, {2, 3}, {3, 0}, {2, 4}}, 2, -1, -1, -1);
        judge("3 and 4", Houses.SQUARE, new int[][] {{0, 1}, {1, 2}, {2, 3}, {3, 0}}, 3, 0, 1, 2);
        HouseDesk full = Houses.full();
        check.due("4 and 5", Houses.plan(full), 4, -1, -1, -1);
        judgeCorners(full, 0, 2, 1, 1, 5, 0, 1, 2);
        HouseDesk crossed = Houses.square(new int[] {0, 2}, new int[] {1, 3});
        judgeCorners(crossed, 0, 0, 0, 0, 0, 4, 5, -1);
    }

    // Promise 8

    private static void answers() {
        check.sentence("8", "Plans: 0 or 2 to 5, if something stands against it, else 1.");
        HouseDesk desk = new HouseDesk();
        check.due("nothing drawn", desk.plan(), 2);
        Houses.add(desk, Houses.SQUARE, new int[][] {{0, 1}, {1, 2}, {2, 3}, {3, 0}});
        check.due("a square", desk.plan(), 3);
        desk.join(1, 3);
        check.due("two triangles", desk.plan(), 4);
        check.due("b is c, the chord's ends at the north", planWith(desk, 3, 1, 1, 2), 5);
        check.due("corners all around", planWith(desk, 0, 1, 2, 3), 1);
        check.due("again", desk.plan(), 1);
        desk.join(0, 2);
        check.due("a crossing", desk.plan(), 0);
        check.due("again", desk.plan(), 0);
        check.due("count(4)", desk.count(4), 0);
    }

    // Promise 9

    private static final int[][] POSTS = {{0, 0, 10}, {1, 30, 10}, {2, 5, 0}, {3, 5, 20}, {4, 15, 0}, {5, 15, 20}, {6, 25, 0},
        {7, 25, 20}, {8, 20, 10}};

    private static void witnessOfJoins() {
        check.sentence("9", "two joins that share such a point");
        judge("the least first one", POSTS, new int[][] {{2, 4}, {2, 3}, {4, 5}, {0, 1}, {6, 7}}, 0, 1, 3, -1);
        judge("then the least second one", POSTS, new int[][] {{0, 1}, {3, 5}, {6, 7}, {4, 5}}, 0, 0, 2, -1);
        judge("not the last two", POSTS, new int[][] {{2, 5}, {3, 4}, {0, 1}}, 0, 0, 1, -1);
    }

    private static void witnessOfARoom() {
        check.sentence("9", "or (if there are none) the join and the room (k = 0, 1), of all the least first one, then the least second one");
        judge("two joins, though a room is on join 0", POSTS, new int[][] {{0, 1}, {2, 4}, {4, 3}, {2, 5}}, 0, 0, 2, -1);
        judge("joins 1 and 2, though room 8 is on join 0", new int[][] {{0, 0, 10}, {1, 30, 10}, {8, 20, 10}, {2, 0, 20},
            {3, 30, 30}, {4, 0, 30}, {5, 30, 20}}, new int[][] {{0, 1}, {2, 3}, {4, 5}}, 0, 1, 2, -1);
        judge("a room", POSTS, new int[][] {{2, 4}, {1, 0}}, 0, 1, 8, -1);
        judge("room 0", new int[][] {{1, 0, 31}, {0, 15, 16}, {2, 30, 1}}, new int[][] {{1, 2}}, 0, 0, 0, -1);
        judge("the least join, then the least room",
            new int[][] {{0, 0, 0}, {1, 20, 0}, {2, 0, 9}, {3, 20, 9}, {7, 10, 9}, {5, 15, 9}, {4, 3, 0}},
            new int[][] {{2, 3}, {0, 1}}, 0, 0, 5, -1);
    }

    private static void witnessOfAFace() {
        check.sentence("9", "behind 3 the three least rooms of the inner face that has the least ones of all with more than three"
            + " (its rooms upward, k = 0, 1, 2; compared from the first on)");
        int[][] grid = {{2, 0, 0}, {5, 0, 10}, {0, 10, 0}, {4, 10, 10}, {1, 20, 0}, {3, 20, 10}};
        int[][] around = {{2, 5}, {5, 4}, {4, 3}, {3, 1}, {1, 0}, {0, 2}, {0, 4}};
        judge("compared in the second", grid, around, 3, 0, 1, 3);
        judge("compared in the third", new int[][] {{2, 0, 0}, {5, 0, 10}, {0, 10, 0}, {1, 10, 10}, {4, 20, 0}, {3, 20, 10}},
            new int[][] {{2, 5}, {5, 1}, {1, 3}, {3, 4}, {4, 0}, {0, 2}, {0, 1}}, 3, 0, 1, 2);
        judge("compared in the third, drawn in another order",
            new int[][] {{3, 0, 0}, {4, 0, 10}, {0, 10, 0}, {1, 10, 10}, {5, 20, 0}, {2, 20, 10}},
            new int[][] {{3, 4}, {4, 1}, {1, 2}, {2, 5}, {5, 0}, {0, 3}, {0, 1}}, 3, 0, 1, 2);
        judge("compared in the first", new int[][] {{7, 0, 0}, {0, 0, 10}, {5, 10, 0}, {6, 10, 10}, {1, 20, 0}, {2, 20, 10}},
            new int[][] {{1, 2}, {1, 5}, {2, 6}, {5, 6}, {0, 7}, {0, 6}, {5, 7}}, 3, 0, 5, 6);
        int[][] halved = {{2, 5}, {5, 4}, {4, 3}, {3, 1}, {1, 0}, {0, 2}, {0, 4}, {0, 3}};
        judge("a face of three does not count", grid, halved, 3, 0, 2, 4);
        judge("three of five, upward", new int[][] {{8, 0, 9}, {7, 9, 0}, {6, 18, 0}, {5, 27, 9}, {4, 13, 20}},
            new int[][] {{8, 7}, {7, 6}, {6, 5}, {5, 4}, {4, 8}}, 3, 4, 5, 6);
    }

    /** Rooms 0 and 1 in the middle, with 2 above and 3 below them; 6 and 7 within these threes. */
    private static HouseDesk lens(boolean above, boolean below) {
        HouseDesk desk = Houses.draw(new int[][] {{0, 10, 16}, {1, 20, 16}, {2, 15, 28}, {3, 15, 4}, {4, 0, 16}, {5, 31, 16}},
            new int[][] {{4, 2}, {2, 5}, {5, 3}, {3, 4}, {0, 1}, {0, 2}, {1, 2}, {0, 3}, {1, 3}, {4, 0}, {5, 1}});
        if (above) {
            Houses.add(desk, new int[][] {{6, 15, 20}}, new int[][] {{6, 0}, {6, 1}, {6, 2}});
        }
        if (below) {
            Houses.add(desk, new int[][] {{7, 15, 12}}, new int[][] {{7, 0}, {7, 1}, {7, 3}});
        }
        return desk;
    }

    private static void witnessOfNodes() {
        check.sentence("9", "behind 5 the three nodes, upward, likewise (k = 0, 1, 2)");
        judgeCorners(lens(true, true), 4, 2, 5, 3, 5, 0, 1, 2);
        judgeCorners(lens(false, true), 4, 2, 5, 3, 5, 0, 1, 3);
        judgeCorners(lens(false, false), 4, 2, 5, 3, 1, -1, -1, -1);
        HouseDesk two = Houses.wheel();
        Houses.add(two, new int[][] {{8, 14, 8}, {7, 20, 15}}, new int[][] {{8, 2}, {8, 3}, {8, 4}, {7, 1}, {7, 2}, {7, 4}});
        judgeCorners(two, 0, 1, 2, 3, 5, 1, 2, 4);
        judgeCorners(two, 1, 3, 3, 0, 5, 1, 2, 4);
        judgeCorners(two, 1, 1, 1, 3, 5, 1, 2, 4);
        judgeCorners(two, 0, 0, 0, 1, 5, 0, 1, 12);
        judgeCorners(two, 0, 0, 0, 2, 5, 0, 11, 12);
    }

    private static void nodesOfTheSides() {
        check.sentence("Terms", "Nodes 9, 10, 11, 12 are the SIDES north, east, south, west.");
        HouseDesk chord = Houses.square(new int[] {1, 3});
        judgeCorners(chord, 1, 3, 3, 0, 5, 1, 3, 9);
        judgeCorners(chord, 0, 1, 3, 3, 5, 1, 3, 10);
        judgeCorners(chord, 0, 0, 1, 3, 5, 1, 3, 11);
        judgeCorners(chord, 3, 3, 0, 1, 5, 1, 3, 12);
    }

    private static void witnessOtherNumber() {
        check.sentence("9", "-1 for other k");
        HouseDesk crossed = Houses.square(new int[] {0, 2}, new int[] {1, 3});
        crossed.plan();
        HouseDesk wide = Houses.square();
        wide.plan();
        HouseDesk loose = Houses.full();
        planWith(loose, 0, 2, 1, 1);
        for (int k : new int[] {-1, 3, 4, 9, Integer.MIN_VALUE, Integer.MAX_VALUE}) {
            check.due("witness(" + k + ") behind 0", crossed.witness(k), -1);
            check.due("witness(" + k + ") behind 3", wide.witness(k), -1);
            check.due("witness(" + k + ") behind 5", loose.witness(k), -1);
        }
        check.due("witness(2) behind 0", crossed.witness(2), -1);
        check.due("witness(1) behind 0", crossed.witness(1), 5);
        check.due("witness(2) behind 3", wide.witness(2), 2);
        check.due("witness(2) behind 5", loose.witness(2), 2);
    }

    private static void witnessOfNothing() {
        check.sentence("9", "or if nothing of that kind was answered last (behind 1, 2, 4)");
        HouseDesk desk = Houses.square();
        check.due("before a plan()", desk.witness(0), -1);
        check.due("behind 3", Houses.plan(desk), 3, 0, 1, 2);
        desk.join(0, 2);
        check.due("witness(0) before the next plan()", desk.witness(0), 0);
        check.due("behind 4", Houses.plan(desk), 4, -1, -1, -1);
        judgeCorners(desk, 0, 2, 2, 3, 5, 0, 2, 9);
        judgeCorners(desk, 0, 1, 2, 3, 1, -1, -1, -1);
        desk.join(1, 3);
        check.due("behind 0, that had three before", Houses.plan(desk), 0, 4, 5, -1);
        desk.clear();
        check.due("behind 2", Houses.plan(desk), 2, -1, -1, -1);
    }
}
