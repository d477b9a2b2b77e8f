/** Sketches that several tests draw. */
final class Houses {
    private Houses() {
    }

    static HouseDesk draw(int[][] rooms, int[][] joins) {
        HouseDesk desk = new HouseDesk();
        add(desk, rooms, joins);
        return desk;
    }

    static void add(HouseDesk desk, int[][] rooms, int[][] joins) {
        for (int[] r : rooms) {
            desk.room(r[0], r[1], r[2]);
        }
        for (int[] e : joins) {
            desk.join(e[0], e[1]);
        }
    }

    /** Its outline goes 0, 2, 1. */
    static HouseDesk triangle() {
        return draw(new int[][] {{0, 5, 5}, {1, 25, 5}, {2, 15, 25}}, new int[][] {{0, 1}, {1, 2}, {2, 0}});
    }

    static final int[][] SQUARE = {{0, 5, 25}, {1, 25, 25}, {2, 25, 5}, {3, 5, 5}};

    /** Its outline goes 3, 0, 1, 2. */
    static HouseDesk square(int[]... more) {
        HouseDesk desk = draw(SQUARE, new int[][] {{0, 1}, {1, 2}, {2, 3}, {3, 0}});
        add(desk, new int[0][], more);
        return desk;
    }

    /** A square with a room in the middle that is joined with all. */
    static HouseDesk wheel() {
        HouseDesk desk = square();
        add(desk, new int[][] {{4, 15, 14}}, new int[][] {{4, 0}, {4, 1}, {4, 2}, {4, 3}});
        return desk;
    }

    /** Nine rooms with 21 joins, none crossing: rooms 2 to 8 in a row, each joined with 0 and 1. */
    static HouseDesk full() {
        HouseDesk desk = new HouseDesk();
        drawFull(desk);
        return desk;
    }

    static void drawFull(HouseDesk desk) {
        add(desk, new int[][] {{0, 0, 0}, {1, 31, 0}, {2, 15, 31}}, new int[][] {{0, 1}, {1, 2}, {2, 0}});
        for (int i = 3; i < 9; i++) {
            add(desk, new int[][] {{i, 15, 38 - 4 * i}}, new int[][] {{i, 0}, {1, i}, {i - 1, i}});
        }
    }

    /** Eight rooms around room 8, clockwise from room 0 in the north-west; a plan of nine rooms. */
    static HouseDesk ring() {
        HouseDesk desk = draw(new int[][] {{0, 2, 29}, {1, 16, 31}, {2, 30, 29}, {3, 31, 16}, {4, 29, 2}, {5, 16, 0},
            {6, 2, 3}, {7, 0, 15}, {8, 16, 16}}, new int[0][]);
        for (int i = 0; i < 8; i++) {
            desk.join(i, (i + 1) % 8);
            desk.join(8, i);
        }
        desk.corners(0, 2, 4, 6);
        return desk;
    }

    /** The triangle with the plan in which 0 is at the left, 1 below 2. */
    static HouseDesk planned() {
        HouseDesk desk = triangle();
        desk.corners(0, 2, 1, 0);
        desk.plan();
        return desk;
    }

    static int[] rect(HouseDesk desk, int i) {
        return new int[] {desk.rect(i, 0), desk.rect(i, 1), desk.rect(i, 2), desk.rect(i, 3)};
    }

    static int[] wallOf(HouseDesk desk, int join) {
        return new int[] {desk.wallOf(join, 0), desk.wallOf(join, 1), desk.wallOf(join, 2)};
    }

    static int[] sides(HouseDesk desk, int i) {
        return new int[] {desk.side(i, 0), desk.side(i, 1), desk.side(i, 2), desk.side(i, 3)};
    }

    static int[] house(HouseDesk desk) {
        return new int[] {desk.house(0), desk.house(1), desk.house(2)};
    }

    /** What plan() answers, and the three witnesses. */
    static int[] plan(HouseDesk desk) {
        return new int[] {desk.plan(), desk.witness(0), desk.witness(1), desk.witness(2)};
    }

    static int[] counts(HouseDesk desk) {
        return new int[] {desk.count(0), desk.count(1), desk.count(2), desk.count(3), desk.count(4)};
    }

    static int[] wayRooms(HouseDesk desk, int size) {
        int[] rooms = new int[size];
        for (int k = 0; k < size; k++) {
            rooms[k] = desk.wayRoom(k);
        }
        return rooms;
    }
}
