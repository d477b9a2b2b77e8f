import java.util.NoSuchElementException;

/** Promises 1 to 7 and 16: what is drawn, named, wished and cleared. */
public final class SketchTest {
    private static final Class<IllegalArgumentException> WRONG = IllegalArgumentException.class;
    private static final Class<IllegalStateException> EARLY = IllegalStateException.class;
    private static final Check check = new Check();

    public static void main(String[] args) {
        newObject();
        rooms();
        joins();
        cornersNamed();
        leastSizes();
        walls();
        cleared();
        planTakenAway();
        counts();
        check.end();
    }

    private static void newObject() {
        HouseDesk desk = new HouseDesk();
        check.due("1: counts", Houses.counts(desk), 0, 0, 0, 0, 0);
        check.due("1: witness(0)", desk.witness(0), -1);
        check.due("1: wayRoom(0)", desk.wayRoom(0), -1);
        check.refused("1: house(0)", NoSuchElementException.class, () -> desk.house(0));
        check.refused("1: way(0, 0)", WRONG, () -> desk.way(0, 0));
        check.due("1: plan()", Houses.plan(desk), 2, -1, -1, -1);
    }

    private static void rooms() {
        HouseDesk desk = new HouseDesk();
        int[][] wrong = {{-1, 0, 0}, {9, 0, 0}, {0, -1, 0}, {0, 32, 0}, {0, 0, -1}, {0, 0, 32},
            {Integer.MIN_VALUE, 0, 0}, {0, Integer.MAX_VALUE, 0}};
        for (int[] r : wrong) {
            check.refused("2: room" + java.util.Arrays.toString(r), WRONG, () -> desk.room(r[0], r[1], r[2]));
        }
        desk.room(0, 0, 0);
        desk.room(8, 31, 31);
        check.due("2: two rooms", desk.count(0), 2);
        check.refused("2: drawn", EARLY, () -> desk.room(0, 3, 3));
        check.refused("2: drawn there", EARLY, () -> desk.room(0, 0, 0));
        check.refused("2: point taken", EARLY, () -> desk.room(1, 31, 31));
        check.refused("2: no point comes before drawn", WRONG, () -> desk.room(0, 32, 0));
        desk.room(1, 0, 31);
        desk.room(2, 31, 0);
        check.due("2: four rooms", desk.count(0), 4);
    }

    private static void joins() {
        HouseDesk desk = new HouseDesk();
        for (int i = 0; i < 8; i++) {
            desk.room(i, i, i * i % 32);
        }
        check.refused("3: itself", WRONG, () -> desk.join(3, 3));
        check.refused("3: first not drawn", WRONG, () -> desk.join(8, 3));
        check.refused("3: second not drawn", WRONG, () -> desk.join(3, 8));
        check.refused("3: no room", WRONG, () -> desk.join(-1, 3));
        check.refused("3: no room", WRONG, () -> desk.join(3, 9));
        int made = 0;
        for (int i = 0; i < 8 && made < 20; i++) {
            for (int j = i + 1; j < 8 && made < 20; j++) {
                check.due("3: join number", desk.join(j, i), made);
                made++;
            }
        }
        check.refused("3: joined", EARLY, () -> desk.join(1, 0));
        check.refused("3: joined from the other", EARLY, () -> desk.join(0, 1));
        check.due("3: the last join", desk.join(6, 7), 20);
        check.refused("3: there are 21", EARLY, () -> desk.join(5, 7));
        check.refused("3: itself comes first", WRONG, () -> desk.join(5, 5));
        check.due("3: joins", desk.count(1), 21);
    }

    private static void cornersNamed() {
        HouseDesk desk = Houses.wheel();
        check.refused("4: a not drawn", WRONG, () -> desk.corners(5, 1, 2, 3));
        check.refused("4: b not drawn", WRONG, () -> desk.corners(0, 8, 2, 3));
        check.refused("4: c not drawn", WRONG, () -> desk.corners(0, 1, -1, 3));
        check.refused("4: d not drawn", WRONG, () -> desk.corners(0, 1, 2, 9));
        check.due("4: still not named", desk.plan(), 4);
        desk.corners(3, 2, 1, 0);
        check.due("4: the wrong way round", desk.plan(), 4);
        desk.corners(3, 0, 1, 2);
        check.due("4: told anew", desk.plan(), 1);
        check.due("4: 3 is at the north and west", Houses.sides(desk, 3), desk.side(3, 0), 0, 0, desk.side(3, 3));
        check.refused("4: refused", WRONG, () -> desk.corners(0, 1, 2, 7));
        check.due("4: a refused call leaves the plan", desk.count(4), 1);
    }

    private static void leastSizes() {
        HouseDesk desk = Houses.triangle();
        desk.corners(0, 2, 1, 0);
        int[][] wrong = {{0, 0, 1}, {0, 1, 0}, {0, 51, 1}, {0, 1, 51}, {0, -1, 1}, {3, 1, 1}, {-1, 1, 1}, {9, 1, 1}};
        for (int[] w : wrong) {
            check.refused("5: least" + java.util.Arrays.toString(w), WRONG, () -> desk.least(w[0], w[1], w[2]));
        }
        desk.plan();
        check.due("5: 1 and 1 at first", Houses.house(desk), 2, 2, 1);
        desk.least(0, 50, 1);
        desk.least(1, 1, 50);
        desk.plan();
        check.due("5: 50 wide and 50 high", Houses.house(desk), 51, 51, 51 * 51 - 101);
        desk.least(0, 1, 1);
        desk.plan();
        check.due("5: told anew", Houses.house(desk), 2, 51, 50);
    }

    private static void walls() {
        HouseDesk desk = Houses.triangle();
        desk.corners(0, 2, 1, 0);
        int[][] wrong = {{-1, 1}, {3, 1}, {21, 1}, {0, 0}, {0, 21}, {0, -5}};
        for (int[] w : wrong) {
            check.refused("6: wall" + java.util.Arrays.toString(w), WRONG, () -> desk.wall(w[0], w[1]));
        }
        desk.wall(0, 20);
        desk.plan();
        check.due("6: 20 long", Houses.wallOf(desk, 0), 0, 0, 20);
        desk.wall(0, 1);
        desk.wall(1, 2);
        desk.plan();
        check.due("6: 1 long again", Houses.wallOf(desk, 0), 0, 0, 1);
        check.due("6: 2 long", Houses.wallOf(desk, 1), 2, 1, 3);
    }

    private static void cleared() {
        HouseDesk desk = Houses.triangle();
        desk.corners(0, 2, 1, 0);
        desk.least(0, 9, 9);
        desk.wall(0, 9);
        desk.plan();
        desk.way(0, 2);
        desk.clear();
        check.due("7: nothing drawn, the outline told", Houses.counts(desk), 0, 0, 3, 1, 0);
        check.due("7: the way stays", Houses.wayRooms(desk, 3), 0, 2, -1);
        check.refused("7: no room", WRONG, () -> desk.corners(0, 0, 0, 0));
        check.refused("7: no join", WRONG, () -> desk.wall(0, 1));
        check.refused("7: no plan", NoSuchElementException.class, () -> desk.rect(0, 0));
        Houses.add(desk, new int[][] {{0, 5, 5}, {1, 25, 5}, {2, 15, 25}}, new int[][] {{0, 1}, {1, 2}, {2, 0}});
        check.due("7: no corners", desk.plan(), 4);
        desk.corners(0, 2, 1, 0);
        desk.plan();
        check.due("7: no wishes", Houses.house(desk), 2, 2, 1);
        HouseDesk crossed = Houses.square(new int[] {0, 2}, new int[] {1, 3});
        crossed.plan();
        crossed.clear();
        check.due("7: the witness stays", crossed.witness(0) * 10 + crossed.witness(1), 45);
        crossed.room(3, 1, 1);
        crossed.room(4, 2, 2);
        check.due("7: joined no more", crossed.way(3, 4), 0);
        check.due("7: the witness is gone", Houses.plan(crossed), 2, -1, -1, -1);
    }

    private static void planTakenAway() {
        for (int k = 0; k < 5; k++) {
            HouseDesk desk = Houses.triangle();
            desk.corners(0, 2, 1, 0);
            Runnable[] changes = {() -> desk.room(3, 15, 10), () -> desk.corners(0, 2, 1, 0), () -> desk.least(0, 1, 1),
                () -> desk.wall(0, 1), () -> desk.clear()};
            check.due("2: plan() before change " + k, desk.plan(), 1);
            changes[k].run();
            check.due("2: change " + k, desk.count(4), 0);
            check.refused("2: change " + k, NoSuchElementException.class, () -> desk.house(0));
        }
        HouseDesk square = Houses.square(new int[] {0, 2});
        square.corners(0, 1, 2, 3);
        square.plan();
        check.refused("3: refused", EARLY, () -> square.join(2, 0));
        check.refused("2: refused", EARLY, () -> square.room(0, 1, 1));
        check.refused("5: refused", WRONG, () -> square.least(0, 51, 1));
        check.refused("6: refused", WRONG, () -> square.wall(0, 21));
        square.way(0, 1);
        check.due("2: what is refused leaves the plan", square.count(4), 1);
        square.join(1, 3);
        check.due("3: a join takes it away", square.count(4), 0);
    }

    private static void counts() {
        HouseDesk desk = Houses.square(new int[] {0, 2});
        check.due("16: before a plan", Houses.counts(desk), 4, 5, 0, 0, 0);
        desk.plan();
        check.due("16: behind 4", Houses.counts(desk), 4, 5, 4, 2, 0);
        desk.corners(0, 2, 2, 3);
        desk.plan();
        check.due("16: behind 5", Houses.counts(desk), 4, 5, 4, 2, 0);
        desk.corners(0, 1, 2, 3);
        desk.plan();
        check.due("16: behind 1", Houses.counts(desk), 4, 5, 4, 2, 1);
        desk.room(4, 0, 0);
        check.due("16: a change leaves what was found", Houses.counts(desk), 5, 5, 4, 2, 0);
        desk.plan();
        check.due("16: behind 2", Houses.counts(desk), 5, 5, 0, 0, 0);
        desk.join(4, 1);
        desk.plan();
        check.due("16: behind 0", Houses.counts(desk), 5, 6, 0, 0, 0);
        HouseDesk wide = Houses.square();
        wide.plan();
        check.due("16: behind 3", Houses.counts(wide), 4, 4, 4, 1, 0);
        check.due("16: another what", wide.count(5), -1);
        check.due("16: another what", wide.count(-1), -1);
        check.due("16: another what", wide.count(Integer.MIN_VALUE), -1);
    }
}
