/** The boundary cases of promises 14 to 16, and every call with numbers far and near, in many states. */
public final class AskBoundsTest {
    private static final Class<IllegalArgumentException> WRONG = IllegalArgumentException.class;
    private static final int LEAST = Integer.MIN_VALUE;
    private static final int MOST = Integer.MAX_VALUE;
    private static final int[] ODD = {LEAST, -1, 0, 1, 2, 8, 9, 20, 21, 31, 32, 50, 51, MOST};
    private static final Check check = new Check();

    public static void main(String[] args) {
        check.each(AskBoundsTest::wayToItself, AskBoundsTest::wayLongest, AskBoundsTest::wayNone,
            AskBoundsTest::wayNotDrawn, AskBoundsTest::wayAskedLast, AskBoundsTest::wayLeastRooms,
            AskBoundsTest::wayTooShort, AskBoundsTest::wayNotAsked, AskBoundsTest::wayStays,
            AskBoundsTest::countDrawn, AskBoundsTest::countLatest, AskBoundsTest::countNothing,
            AskBoundsTest::countPlan, AskBoundsTest::countOther, AskBoundsTest::nothingElseThrown);
        check.end();
    }

    // Promise 14

    private static void wayToItself() {
        check.sentence("14", "(1 from a room to itself");
        HouseDesk desk = new HouseDesk();
        desk.room(8, 31, 31);
        check.due("way(8, 8), the only room", desk.way(8, 8), 1);
        check.due("its rooms", Houses.wayRooms(desk, 2), 8, -1);
        HouseDesk full = Houses.full();
        for (int i = 0; i < 9; i++) {
            check.due("way(i, i) in a full sketch", full.way(i, i), 1);
            check.due("its rooms", Houses.wayRooms(full, 2), i, -1);
        }
    }

    private static HouseDesk row() {
        HouseDesk desk = new HouseDesk();
        for (int i = 0; i < 9; i++) {
            desk.room(i, i, i);
        }
        for (int i = 0; i < 8; i++) {
            desk.join(i, i + 1);
        }
        return desk;
    }

    private static void wayLongest() {
        check.sentence("14", "How many rooms the shortest way by joins from i to j has");
        HouseDesk desk = row();
        check.due("way(0, 8) by all rooms", desk.way(0, 8), 9);
        check.due("its rooms", Houses.wayRooms(desk, 10), 0, 1, 2, 3, 4, 5, 6, 7, 8, -1);
        check.due("way(8, 0) by all rooms", desk.way(8, 0), 9);
        check.due("its rooms", Houses.wayRooms(desk, 10), 8, 7, 6, 5, 4, 3, 2, 1, 0, -1);
        check.due("way(3, 4)", desk.way(3, 4), 2);
        desk.join(8, 0);
        check.due("way(0, 8) by a new join", desk.way(0, 8), 2);
        check.due("way(1, 7)", desk.way(1, 7), 4);
        check.due("way(2, 6), as long both ways", desk.way(2, 6), 5);
    }

    private static void wayNone() {
        check.sentence("14", "0 if there is none)");
        HouseDesk desk = Houses.triangle();
        desk.room(3, 0, 0);
        desk.room(4, 0, 1);
        desk.join(3, 4);
        check.due("way(0, 3)", desk.way(0, 3), 0);
        check.due("its rooms", Houses.wayRooms(desk, 2), -1, -1);
        check.due("way(4, 2)", desk.way(4, 2), 0);
        check.due("way(4, 3)", desk.way(4, 3), 2);
        desk.clear();
        desk.room(0, 1, 1);
        desk.room(1, 2, 1);
        check.due("way(0, 1), joined before clear()", desk.way(0, 1), 0);
    }

    private static void wayNotDrawn() {
        check.sentence("14", "IllegalArgumentException: one is not drawn.");
        HouseDesk desk = Houses.triangle();
        desk.way(0, 2);
        for (int i : new int[] {-1, 3, 8, 9, 32, LEAST, MOST}) {
            check.refused("way(" + i + ", 0)", WRONG, () -> desk.way(i, 0));
            check.refused("way(0, " + i + ")", WRONG, () -> desk.way(0, i));
            check.refused("way(" + i + ", " + i + ")", WRONG, () -> desk.way(i, i));
        }
        check.due("the way that was told before", Houses.wayRooms(desk, 3), 0, 2, -1);
        desk.clear();
        check.refused("way(0, 0) behind clear()", WRONG, () -> desk.way(0, 0));
    }

    // Promise 15

    private static void wayLeastRooms() {
        check.sentence("15", "of the shortest ones that with the least rooms, compared from the first on");
        HouseDesk desk = Houses.draw(
            new int[][] {{0, 0, 0}, {1, 1, 3}, {2, 2, 5}, {3, 4, 9}, {4, 5, 1}, {5, 8, 20}, {6, 9, 2}, {7, 30, 1}, {8, 31, 31}},
            new int[][] {{8, 7}, {7, 1}, {1, 0}, {8, 6}, {6, 2}, {2, 0}, {6, 3}, {3, 0}, {8, 5}, {5, 4}});
        check.due("way(8, 0)", desk.way(8, 0), 4);
        check.due("6 is less than 7, then 2 less than 3", Houses.wayRooms(desk, 5), 8, 6, 2, 0, -1);
        check.due("way(0, 8)", desk.way(0, 8), 4);
        check.due("1 is less than 2", Houses.wayRooms(desk, 5), 0, 1, 7, 8, -1);
        desk.join(4, 8);
        check.due("way(8, 0), 4 leads nowhere near", desk.way(8, 0), 4);
        check.due("4 is less, but on no shortest way", Houses.wayRooms(desk, 5), 8, 6, 2, 0, -1);
    }

    private static void wayTooShort() {
        check.sentence("15", "-1 if it has not so many");
        HouseDesk desk = Houses.triangle();
        desk.way(1, 2);
        check.due("wayRoom(1), the last", desk.wayRoom(1), 2);
        for (int k : new int[] {2, 3, 8, 9, 10, -1, LEAST, MOST}) {
            check.due("wayRoom(" + k + ") of two rooms", desk.wayRoom(k), -1);
        }
        HouseDesk all = row();
        all.way(0, 8);
        check.due("wayRoom(8) of nine rooms", all.wayRoom(8), 8);
        check.due("wayRoom(9) of nine rooms", all.wayRoom(9), -1);
        check.due("wayRoom(-1) of nine rooms", all.wayRoom(-1), -1);
        all.way(3, 3);
        check.due("wayRoom(1) of one room, behind nine", all.wayRoom(1), -1);
    }

    private static void wayNotAsked() {
        check.sentence("15", "(or there was none)");
        HouseDesk desk = Houses.triangle();
        for (int k = -1; k < 10; k++) {
            check.due("wayRoom(" + k + "), none asked for", desk.wayRoom(k), -1);
        }
        check.refused("way(0, 3)", WRONG, () -> desk.way(0, 3));
        check.due("wayRoom(0) behind a refused one", desk.wayRoom(0), -1);
        desk.room(3, 0, 0);
        desk.way(0, 1);
        desk.way(0, 3);
        check.due("rooms of no way, behind another", Houses.wayRooms(desk, 2), -1, -1);
    }

    private static void wayAskedLast() {
        check.sentence("15", "Room k of the way that was asked for last");
        HouseDesk desk = row();
        desk.way(2, 5);
        check.due("rooms of the first way", Houses.wayRooms(desk, 5), 2, 3, 4, 5, -1);
        desk.way(7, 6);
        check.due("rooms of the second way, shorter", Houses.wayRooms(desk, 5), 7, 6, -1, -1, -1);
        desk.way(6, 8);
        check.due("rooms of the third way, longer", Houses.wayRooms(desk, 5), 6, 7, 8, -1, -1);
    }

    private static void wayStays() {
        check.sentence("15", "(It stays as it was told.)");
        HouseDesk desk = Houses.square();
        desk.way(0, 2);
        Runnable[] changes = {() -> desk.join(0, 2), () -> desk.corners(0, 1, 2, 3), () -> desk.plan(), () -> desk.room(4, 0, 0),
            () -> desk.least(0, 2, 2), () -> desk.wall(0, 2), () -> desk.clear(), () -> desk.plan(), () -> desk.room(1, 3, 3)};
        for (int k = 0; k < changes.length; k++) {
            changes[k].run();
            check.due("rooms behind change " + k, Houses.wayRooms(desk, 4), 0, 1, 2, -1);
        }
        check.due("way(1, 1)", desk.way(1, 1), 1);
        check.due("rooms of the way asked for last", Houses.wayRooms(desk, 2), 1, -1);
    }

    // Promise 16

    private static void countDrawn() {
        check.sentence("16", "0 rooms, 1 joins");
        HouseDesk desk = new HouseDesk();
        check.due("nothing", Houses.counts(desk), 0, 0, 0, 0, 0);
        Houses.drawFull(desk);
        check.due("a full sketch", Houses.counts(desk), 9, 21, 0, 0, 0);
        check.refused("room(8, 1, 1)", IllegalStateException.class, () -> desk.room(8, 1, 1));
        check.refused("join(2, 8)", IllegalStateException.class, () -> desk.join(2, 8));
        check.due("behind refused ones", Houses.counts(desk), 9, 21, 0, 0, 0);
        desk.clear();
        check.due("cleared", Houses.counts(desk), 0, 0, 0, 0, 0);
    }

    private static void countLatest() {
        check.sentence("16", "2 the outline's rooms, 3 inner faces (both as the latest plan() found them;");
        HouseDesk desk = Houses.square();
        desk.plan();
        check.due("behind 3", Houses.counts(desk), 4, 4, 4, 1, 0);
        desk.join(0, 2);
        check.due("changed, not planned", Houses.counts(desk), 4, 5, 4, 1, 0);
        desk.plan();
        check.due("behind 4", Houses.counts(desk), 4, 5, 4, 2, 0);
        desk.corners(0, 2, 2, 3);
        desk.plan();
        check.due("behind 5", Houses.counts(desk), 4, 5, 4, 2, 0);
        desk.corners(0, 1, 2, 3);
        desk.plan();
        check.due("behind 1", Houses.counts(desk), 4, 5, 4, 2, 1);
        desk.clear();
        check.due("cleared", Houses.counts(desk), 0, 0, 4, 2, 0);
    }

    private static void countNothing() {
        check.sentence("16", "0 if it answered 0 or 2, or there was none)");
        HouseDesk desk = Houses.square();
        check.due("before a plan()", Houses.counts(desk), 4, 4, 0, 0, 0);
        desk.plan();
        desk.room(4, 0, 0);
        desk.plan();
        check.due("behind 2, one alone", Houses.counts(desk), 5, 4, 0, 0, 0);
        desk.join(4, 3);
        desk.plan();
        check.due("behind 2, a room twice", Houses.counts(desk), 5, 5, 0, 0, 0);
        HouseDesk crossed = Houses.square();
        crossed.plan();
        crossed.join(0, 2);
        crossed.join(1, 3);
        crossed.plan();
        check.due("behind 0", Houses.counts(crossed), 4, 6, 0, 0, 0);
        HouseDesk two = new HouseDesk();
        two.room(0, 0, 0);
        two.room(1, 1, 1);
        two.join(0, 1);
        two.plan();
        check.due("behind 2, two rooms", Houses.counts(two), 2, 1, 0, 0, 0);
    }

    private static void countPlan() {
        check.sentence("16", "4 whether there is a plan");
        HouseDesk desk = Houses.triangle();
        check.due("before a plan()", desk.count(4), 0);
        desk.plan();
        check.due("behind 4", desk.count(4), 0);
        desk.corners(0, 2, 1, 0);
        check.due("before the next plan()", desk.count(4), 0);
        desk.plan();
        check.due("behind 1", desk.count(4), 1);
        desk.plan();
        check.due("behind 1 again", desk.count(4), 1);
        desk.least(0, 1, 1);
        check.due("behind a wish", desk.count(4), 0);
    }

    private static void countOther() {
        check.sentence("16", "-1 for another what");
        for (HouseDesk desk : new HouseDesk[] {new HouseDesk(), Houses.planned(), Houses.full()}) {
            for (int what : new int[] {-1, 5, 6, 9, LEAST, MOST}) {
                check.due("count(" + what + ")", desk.count(what), -1);
            }
        }
    }

    // LANGUAGE.md, rule 6

    private static void nothingElseThrown() {
        check.sentence("LANGUAGE.md 6", "A call of the face throws exactly what and where the document says, and nothing else");
        for (int state = 0; state < 8; state++) {
            check.due("answers that differ from the model's, in state " + state, differing(state), 0);
        }
    }

    private static int differing(int state) {
        int all = 0;
        for (int m : ODD) {
            for (int n : ODD) {
                all += asked(state, m, n) + wished(state, m, n) + drawn(state, m, n);
            }
        }
        return all;
    }

    private static Pair inState(int state) {
        Pair pair = new Pair("state " + state);
        int[][] rooms = {{0, 5, 25}, {1, 25, 25}, {2, 25, 5}, {8, 5, 5}};
        int[][] joins = {{0, 1}, {1, 2}, {2, 8}, {8, 0}, {0, 2}, {1, 8}};
        int[] drawnRooms = {0, 4, 4, 4, 4, 4, 4, 4};
        int[] drawnJoins = {0, 0, 4, 5, 5, 5, 6, 5};
        for (int k = 0; k < drawnRooms[state]; k++) {
            pair.room(rooms[k][0], rooms[k][1], rooms[k][2]);
        }
        for (int k = 0; k < drawnJoins[state]; k++) {
            pair.join(joins[k][0], joins[k][1]);
        }
        if (state == 4) {
            pair.corners(0, 2, 2, 8);
        } else if (state > 4) {
            pair.corners(0, 1, 2, 8);
        }
        pair.plan();
        if (state == 7) {
            pair.way(1, 8);
            pair.clear();
        }
        return pair;
    }

    private static int asked(int state, int m, int n) {
        Pair pair = inState(state);
        pair.witness(m);
        pair.rect(m, n);
        pair.house(m);
        pair.wallOf(m, n);
        pair.side(m, n);
        pair.way(m, n);
        pair.wayRoom(m);
        pair.count(m);
        pair.askAll();
        return pair.differing();
    }

    private static int wished(int state, int m, int n) {
        Pair pair = inState(state);
        pair.least(m, n, 3);
        pair.least(m, 3, n);
        pair.least(0, m, n);
        pair.wall(m, n);
        pair.count(4);
        pair.plan();
        pair.askAll();
        return pair.differing();
    }

    private static int drawn(int state, int m, int n) {
        Pair pair = inState(state);
        pair.corners(m, n, 2, 8);
        pair.corners(0, m, n, 8);
        pair.corners(0, 1, m, n);
        pair.count(4);
        pair.plan();
        pair.room(m, n, 31);
        pair.room(m, 31, n);
        pair.room(3, m, n);
        pair.join(m, n);
        pair.join(n, m);
        pair.count(4);
        pair.plan();
        pair.askAll();
        return pair.differing();
    }
}
