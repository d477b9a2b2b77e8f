/** Promises 14 and 15: shortest ways. */
public final class WayTest {
    private static final Check check = new Check();

    public static void main(String[] args) {
        HouseDesk desk = Houses.draw(
            new int[][] {{0, 0, 0}, {1, 5, 1}, {2, 9, 7}, {3, 1, 8}, {4, 20, 3}, {5, 30, 30}, {6, 2, 20}, {8, 3, 31}},
            new int[][] {{0, 4}, {3, 0}, {1, 0}, {4, 5}, {5, 3}, {1, 2}, {2, 5}, {5, 6}});
        check.due("15: none was asked for", Houses.wayRooms(desk, 2), -1, -1);
        check.due("14: of two shortest ones", desk.way(0, 5), 3);
        check.due("15: the least rooms, and no longer way", Houses.wayRooms(desk, 4), 0, 3, 5, -1);
        check.due("14: back", desk.way(5, 0), 3);
        check.due("15: back", Houses.wayRooms(desk, 3), 5, 3, 0);
        check.due("14: the first room counts first", desk.way(6, 1), 4);
        check.due("15: the first room counts first", Houses.wayRooms(desk, 5), 6, 5, 2, 1, -1);
        check.due("14: to itself", desk.way(8, 8), 1);
        check.due("15: to itself", Houses.wayRooms(desk, 2), 8, -1);
        check.due("14: there is none", desk.way(8, 0), 0);
        check.due("15: there is none", Houses.wayRooms(desk, 2), -1, -1);
        desk.way(0, 1);
        check.refused("14: not drawn", IllegalArgumentException.class, () -> desk.way(0, 7));
        check.refused("14: not drawn", IllegalArgumentException.class, () -> desk.way(7, 0));
        check.refused("14: no room", IllegalArgumentException.class, () -> desk.way(-1, 0));
        check.refused("14: no room", IllegalArgumentException.class, () -> desk.way(0, 9));
        check.due("15: a refused call leaves it", Houses.wayRooms(desk, 3), 0, 1, -1);
        check.due("15: below", desk.wayRoom(-1), -1);
        check.due("15: above", desk.wayRoom(Integer.MAX_VALUE), -1);
        desk.join(0, 5);
        desk.plan();
        desk.clear();
        check.due("15: it stays as it was told", Houses.wayRooms(desk, 3), 0, 1, -1);
        longest();
        check.end();
    }

    private static void longest() {
        HouseDesk desk = new HouseDesk();
        for (int i = 0; i < 9; i++) {
            desk.room(i, i, i);
        }
        for (int i = 0; i < 8; i++) {
            desk.join(i, i + 1);
        }
        check.due("14: all rooms in a row", desk.way(8, 0), 9);
        check.due("15: all rooms in a row", Houses.wayRooms(desk, 10), 8, 7, 6, 5, 4, 3, 2, 1, 0, -1);
        desk.join(8, 0);
        check.due("15: a new join does not change it", desk.wayRoom(1), 7);
        check.due("14: the new join counts", desk.way(8, 0), 2);
    }
}
