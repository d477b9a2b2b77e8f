import java.util.NoSuchElementException;

/** Promises 10 to 13: the first layout, and the least places in it. */
public final class PlacesTest {
    private static final Check check = new Check();

    public static void main(String[] args) {
        threeRooms();
        wallsPush();
        firstLayout();
        joinsTurned();
        sharedCorners();
        wished();
        refused();
        check.end();
    }

    private static void threeRooms() {
        HouseDesk desk = Houses.triangle();
        desk.corners(0, 2, 1, 0);
        desk.least(0, 3, 2);
        desk.least(1, 4, 5);
        desk.least(2, 2, 6);
        desk.wall(1, 7);
        check.due("8: three rooms", desk.plan(), 1);
        check.due("10: rect of 0", Houses.rect(desk, 0), 0, 0, 3, 11);
        check.due("10: rect of 1", Houses.rect(desk, 1), 3, 0, 10, 5);
        check.due("10: rect of 2", Houses.rect(desk, 2), 3, 5, 10, 11);
        check.due("11: house", Houses.house(desk), 10, 11, 72);
        check.due("12: 0 left of 1", Houses.wallOf(desk, 0), 0, 0, 5);
        check.due("12: 1 below 2", Houses.wallOf(desk, 1), 2, 3, 10);
        check.due("12: 2 right of 0", Houses.wallOf(desk, 2), 1, 5, 11);
        check.due("13: sides of 0", Houses.sides(desk, 0), 3, 0, 3, 11);
        check.due("13: sides of 1", Houses.sides(desk, 1), 0, 5, 7, 0);
        check.due("13: sides of 2", Houses.sides(desk, 2), 7, 6, 0, 0);
    }

    /** A wall wished for between two rooms pushes both, and what is joined with them. */
    private static void wallsPush() {
        HouseDesk desk = Houses.triangle();
        desk.corners(0, 2, 1, 0);
        desk.wall(0, 20);
        desk.wall(2, 4);
        check.due("8: with walls", desk.plan(), 1);
        check.due("10: as high as both walls", Houses.rect(desk, 0), 0, 0, 1, 24);
        check.due("10: as high as its wall", Houses.rect(desk, 1), 1, 0, 2, 20);
        check.due("10: from there on", Houses.rect(desk, 2), 1, 20, 2, 24);
        check.due("11: house", Houses.house(desk), 2, 24, 45);
        HouseDesk steps = Houses.wheel();
        steps.corners(0, 1, 2, 3);
        steps.wall(0, 9);
        check.due("8: with a wall", steps.plan(), 1);
        check.due("10: 0 is high enough for it", Houses.rect(steps, 0), 0, 1, 1, 11);
        check.due("10: 1 is high enough for it", Houses.rect(steps, 1), 1, 2, 3, 11);
        check.due("12: it begins at the higher bottom", Houses.wallOf(steps, 0), 0, 2, 11);
    }

    private static void firstLayout() {
        HouseDesk desk = Houses.wheel();
        desk.corners(0, 1, 2, 3);
        desk.plan();
        check.due("10: 0", Houses.rect(desk, 0), 0, 1, 1, 3);
        check.due("10: 1", Houses.rect(desk, 1), 1, 2, 3, 3);
        check.due("10: 2", Houses.rect(desk, 2), 2, 0, 3, 2);
        check.due("10: 3", Houses.rect(desk, 3), 0, 0, 2, 1);
        check.due("10: 4", Houses.rect(desk, 4), 1, 1, 2, 2);
        check.due("12: 4 right of 0", Houses.wallOf(desk, 4), 1, 1, 2);
        check.due("12: 4 below 1", Houses.wallOf(desk, 5), 2, 1, 2);
        check.due("12: 4 left of 2", Houses.wallOf(desk, 6), 0, 1, 2);
        check.due("12: 4 above 3", Houses.wallOf(desk, 7), 3, 1, 2);
        HouseDesk other = Houses.square();
        Houses.add(other, new int[][] {{4, 15, 14}}, new int[][] {{4, 1}, {4, 0}, {4, 2}, {4, 3}});
        other.corners(0, 1, 2, 3);
        other.plan();
        check.due("10: 4 left of 1 comes first", Houses.rect(other, 1), 2, 1, 3, 3);
        check.due("10: so 0 is above 4", Houses.rect(other, 0), 0, 2, 2, 3);
        check.due("10: 2 is below it", Houses.rect(other, 2), 1, 0, 3, 1);
        check.due("10: 3 is left of it", Houses.rect(other, 3), 0, 0, 1, 2);
        check.due("12: 4 left of 1", Houses.wallOf(other, 4), 0, 1, 2);
        check.due("12: 4 below 0", Houses.wallOf(other, 5), 2, 1, 2);
    }

    /** Which room a join names first can choose the layout. */
    private static void joinsTurned() {
        HouseDesk desk = Houses.square(new int[] {0, 2});
        desk.corners(0, 1, 2, 3);
        desk.plan();
        check.due("12: 0 left of 2", Houses.wallOf(desk, 4), 0, 1, 2);
        HouseDesk turned = Houses.square(new int[] {2, 0});
        turned.corners(0, 1, 2, 3);
        turned.plan();
        check.due("12: 2 right of 0 comes before below it", Houses.wallOf(turned, 4), 1, 1, 2);
        check.due("10: as before", Houses.rect(turned, 2), 1, 0, 2, 2);
        HouseDesk other = Houses.square(new int[] {1, 3});
        other.corners(0, 1, 2, 3);
        other.plan();
        check.due("12: 1 right of 3", Houses.wallOf(other, 4), 1, 1, 2);
        check.due("10: 1 goes below 0", Houses.rect(other, 1), 1, 1, 2, 3);
    }

    private static void sharedCorners() {
        HouseDesk desk = Houses.triangle();
        desk.corners(0, 2, 1, 1);
        check.due("8: c is d", desk.plan(), 1);
        check.due("13: 1 has three sides", Houses.sides(desk, 1), 0, 1, 2, 1);
        desk.corners(0, 0, 2, 1);
        check.due("8: a is b", desk.plan(), 1);
        check.due("13: 0 has three sides", Houses.sides(desk, 0), 2, 1, 0, 1);
        check.due("10: 0 is above", Houses.rect(desk, 0), 0, 1, 2, 2);
        check.due("10: 2 is at the right", Houses.rect(desk, 2), 1, 0, 2, 1);
        desk.corners(0, 2, 2, 1);
        check.due("8: b is c", desk.plan(), 1);
        check.due("10: 2 is right of both", Houses.rect(desk, 2), 1, 0, 2, 2);
        HouseDesk wheel = Houses.wheel();
        wheel.corners(0, 0, 2, 2);
        check.due("8: a is b, c is d", wheel.plan(), 1);
        check.due("10: 0 is all the north", Houses.rect(wheel, 0), 0, 2, 3, 3);
        check.due("10: 2 is all the south", Houses.rect(wheel, 2), 0, 0, 3, 1);
        check.due("13: 1 at the east", Houses.sides(wheel, 1), 0, 1, 0, 0);
        check.due("13: 4 at none", Houses.sides(wheel, 4), 0, 0, 0, 0);
        wheel.corners(1, 3, 3, 1);
        check.due("8: b is c, d is a", wheel.plan(), 1);
        check.due("10: 1 is all the west", Houses.rect(wheel, 1), 0, 0, 1, 3);
        check.due("10: 2 is at the north", Houses.rect(wheel, 2), 1, 2, 2, 3);
    }

    private static void wished() {
        HouseDesk desk = Houses.wheel();
        desk.corners(0, 1, 2, 3);
        desk.least(4, 7, 9);
        desk.plan();
        check.due("11: around a large room", Houses.house(desk), 9, 11, 32);
        desk.least(0, 50, 50);
        desk.least(1, 50, 50);
        desk.least(2, 50, 50);
        desk.least(3, 50, 50);
        desk.plan();
        check.due("11: a large house", Houses.house(desk), 107, 109, 107 * 109 - 10063);
        desk.plan();
        check.due("11: planned again", Houses.house(desk), 107, 109, 107 * 109 - 10063);
    }

    private static void refused() {
        Class<IllegalArgumentException> wrong = IllegalArgumentException.class;
        Class<NoSuchElementException> none = NoSuchElementException.class;
        HouseDesk desk = Houses.triangle();
        check.refused("10: no plan", none, () -> desk.rect(0, 0));
        check.refused("10: no plan comes first", none, () -> desk.rect(7, 9));
        check.refused("11: no plan comes first", none, () -> desk.house(9));
        check.refused("12: no plan comes first", none, () -> desk.wallOf(9, 9));
        check.refused("13: no plan comes first", none, () -> desk.side(9, 9));
        desk.corners(0, 2, 1, 0);
        desk.plan();
        int[][] rooms = {{3, 0}, {-1, 0}, {9, 0}, {0, -1}, {0, 4}, {Integer.MAX_VALUE, 0}};
        for (int[] r : rooms) {
            check.refused("10: rect" + java.util.Arrays.toString(r), wrong, () -> desk.rect(r[0], r[1]));
            check.refused("13: side" + java.util.Arrays.toString(r), wrong, () -> desk.side(r[0], r[1]));
        }
        int[][] joins = {{3, 0}, {-1, 0}, {21, 0}, {0, -1}, {0, 3}};
        for (int[] j : joins) {
            check.refused("12: wallOf" + java.util.Arrays.toString(j), wrong, () -> desk.wallOf(j[0], j[1]));
        }
        check.refused("11: house(-1)", wrong, () -> desk.house(-1));
        check.refused("11: house(3)", wrong, () -> desk.house(3));
        check.due("10: the plan is still there", desk.count(4), 1);
    }
}
