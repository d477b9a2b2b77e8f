import java.util.NoSuchElementException;

/** The boundary cases of the layout and the places: the end of "Terms", promises 10 to 13. */
public final class PlacesBoundsTest {
    private static final Class<IllegalArgumentException> WRONG = IllegalArgumentException.class;
    private static final Class<NoSuchElementException> NONE = NoSuchElementException.class;
    private static final int LEAST = Integer.MIN_VALUE;
    private static final int MOST = Integer.MAX_VALUE;
    private static final Check check = new Check();

    public static void main(String[] args) {
        check.each(PlacesBoundsTest::directions, PlacesBoundsTest::sidesAround, PlacesBoundsTest::sidesInTheirPlace,
            PlacesBoundsTest::sidesThatEndAtA, PlacesBoundsTest::inTurn, PlacesBoundsTest::noneMissing,
            PlacesBoundsTest::firstOfAll, PlacesBoundsTest::besideOneAnother, PlacesBoundsTest::aboveOneAnother,
            PlacesBoundsTest::atFirst, PlacesBoundsTest::atTheSides, PlacesBoundsTest::leastPlaces,
            PlacesBoundsTest::mostPlaces, PlacesBoundsTest::rectParts, PlacesBoundsTest::rectWithoutPlan,
            PlacesBoundsTest::rectNotDrawn, PlacesBoundsTest::rectNoPart, PlacesBoundsTest::houseParts,
            PlacesBoundsTest::houseWithoutPlan, PlacesBoundsTest::houseNoPart, PlacesBoundsTest::wallParts,
            PlacesBoundsTest::wallWithoutPlan, PlacesBoundsTest::wallNoJoin, PlacesBoundsTest::sideLengths,
            PlacesBoundsTest::sideNotJoined, PlacesBoundsTest::sideWithoutPlan, PlacesBoundsTest::sideNotDrawn);
        check.end();
    }

    private static HouseDesk laidOut(HouseDesk desk, int a, int b, int c, int d) {
        desk.corners(a, b, c, d);
        check.due("plan()", desk.plan(), 1);
        return desk;
    }

    private static int[] directionsOf(HouseDesk desk) {
        int[] all = new int[desk.count(1)];
        for (int e = 0; e < all.length; e++) {
            all[e] = desk.wallOf(e, 0);
        }
        return all;
    }

    // Terms: the layout

    private static void directions() {
        check.sentence("Terms", "0 the room that was named first is left of the other one, 1 right of it, 2 below it, 3 above it.");
        int[][] rooms = {{0, 5, 5}, {1, 25, 5}, {2, 15, 25}};
        HouseDesk desk = laidOut(Houses.draw(rooms, new int[][] {{0, 1}, {1, 2}, {2, 0}}), 0, 2, 1, 0);
        check.due("directions", directionsOf(desk), 0, 2, 1);
        HouseDesk turned = laidOut(Houses.draw(rooms, new int[][] {{1, 0}, {2, 1}, {0, 2}}), 0, 2, 1, 0);
        check.due("directions, each join turned", directionsOf(turned), 1, 3, 0);
        check.due("rect of 1", Houses.rect(turned, 1), 1, 0, 2, 1);
    }

    private static void sidesAround() {
        check.sentence("Terms", "All rooms joined with the north are below it, with the east left of it, with the south above it,"
            + " with the west right of it.");
        HouseDesk desk = Houses.ring();
        desk.plan();
        for (int i = 0; i < 9; i++) {
            check.due("left of " + i + " at the west", desk.rect(i, 0) == 0 ? 1 : 0, Math.min(1, desk.side(i, 3)));
            check.due("bottom of " + i + " at the south", desk.rect(i, 1) == 0 ? 1 : 0, Math.min(1, desk.side(i, 2)));
            check.due("right of " + i + " at the east", desk.rect(i, 2) == 3 ? 1 : 0, Math.min(1, desk.side(i, 1)));
            check.due("top of " + i + " at the north", desk.rect(i, 3) == 5 ? 1 : 0, Math.min(1, desk.side(i, 0)));
        }
    }

    private static void sidesInTheirPlace() {
        check.sentence("Terms", "(behind the join by which the outline comes, before that by which it goes, in the order in which"
            + " they come along the turn;");
        HouseDesk wheel = laidOut(Houses.wheel(), 0, 1, 1, 2);
        check.due("1 has the north, the east and the south", Houses.sides(wheel, 1), 1, 3, 1, 0);
        check.due("0 is north-west", Houses.rect(wheel, 0), 0, 2, 2, 3);
        check.due("3 is at the west", Houses.rect(wheel, 3), 0, 1, 1, 2);
        check.due("4 is within", Houses.rect(wheel, 4), 1, 1, 2, 2);
        check.due("2 is south-west", Houses.rect(wheel, 2), 0, 0, 2, 1);
        check.due("1 is all the east", Houses.rect(wheel, 1), 2, 0, 3, 3);
    }

    private static void sidesThatEndAtA() {
        check.sentence("Terms", "with corner a those that end there come first)");
        HouseDesk desk = laidOut(Houses.wheel(), 0, 1, 2, 3);
        check.due("the west, then the north", Houses.rect(desk, 0), 0, 1, 1, 3);
        laidOut(desk, 0, 1, 2, 0);
        check.due("the south and the west, then the north", Houses.rect(desk, 0), 0, 0, 1, 3);
        laidOut(desk, 0, 0, 1, 2);
        check.due("the west, then the north and the east", Houses.rect(desk, 0), 0, 2, 3, 3);
        for (int a = 0; a < 4; a++) {
            laidOut(desk, a, (a + 1) % 4, (a + 2) % 4, (a + 3) % 4);
            check.due("left of a", desk.rect(a, 0), 0);
            check.due("top of a", desk.rect(a, 3), 3);
        }
    }

    private static void inTurn() {
        check.sentence("Terms", "there are those that are above it, then those right of it, then below it, then left of it");
        HouseDesk ring = Houses.ring();
        ring.plan();
        int[] seen = new int[8];
        for (int i = 0; i < 8; i++) {
            seen[i] = ring.wallOf(2 * i + 1, 0);
        }
        check.due("8 right of 0, below 1, left of 2 to 4, above 5, right of 6 and 7", seen, 1, 2, 0, 0, 0, 3, 1, 1);
    }

    private static void noneMissing() {
        check.sentence("Terms", "none of the four missing, each of them in one piece");
        HouseDesk desk = laidOut(Houses.wheel(), 0, 1, 2, 3);
        check.due("4 has one room at each side", directionsOf(desk), 0, 3, 1, 2, 1, 2, 0, 3);
        HouseDesk ring = Houses.ring();
        ring.plan();
        int[] seen = new int[4];
        for (int e = 1; e < 16; e += 2) {
            seen[ring.wallOf(e, 0)]++;
        }
        check.due("8 has eight rooms around it, three in a piece right and left", seen, 3, 3, 1, 1);
    }

    private static void firstOfAll() {
        check.sentence("Terms", "Of all such layouts it is the first one by the directions of the joins in their order.");
        HouseDesk desk = laidOut(Houses.square(new int[] {0, 2}), 0, 1, 2, 3);
        check.due("0 left of 2, not above it", directionsOf(desk), 0, 3, 1, 2, 0);
        HouseDesk turned = laidOut(Houses.square(new int[] {2, 0}), 0, 1, 2, 3);
        check.due("2 right of 0, not below it", directionsOf(turned), 0, 3, 1, 2, 1);
        HouseDesk other = laidOut(Houses.square(new int[] {3, 1}), 0, 1, 2, 3);
        check.due("3 left of 1, not below it", directionsOf(other), 0, 3, 1, 2, 0);
        int[][] spokes = {{4, 0}, {4, 1}, {4, 2}, {4, 3}};
        int[][] due = {{1, 2, 0, 3}, {0, 3, 1, 2}, {0, 3, 1, 2}, {1, 2, 0, 3}};
        for (int k = 0; k < 4; k++) {
            HouseDesk wheel = Houses.square();
            Houses.add(wheel, new int[][] {{4, 15, 14}}, new int[][] {spokes[k]});
            for (int n = 1; n < 4; n++) {
                wheel.join(4, (k + n) % 4);
            }
            laidOut(wheel, 0, 1, 2, 3);
            int[] all = directionsOf(wheel);
            check.due("join 4 is to room " + k, new int[] {all[4], all[5], all[6], all[7]}, due[k]);
        }
    }

    // Terms: the places

    private static void besideOneAnother() {
        check.sentence("Terms", "If i is left of j, the right of i is the left of j, and the tops of i and j are each at least the"
            + " bottoms of i and j and the WALL of the join (1 at first)");
        HouseDesk desk = laidOut(Houses.wheel(), 0, 1, 2, 3);
        check.due("wall between 0 and 1 at first", Houses.wallOf(desk, 0), 0, 2, 3);
        desk.wall(0, 20);
        desk.plan();
        check.due("wall between 0 and 1, where 1 begins", Houses.wallOf(desk, 0), 0, 2, 22);
        desk.wall(0, 1);
        desk.wall(4, 20);
        desk.plan();
        check.due("wall between 4 and 0", Houses.wallOf(desk, 4), 1, 1, 21);
        check.due("rect of 4", Houses.rect(desk, 4), 1, 1, 2, 21);
        check.due("rect of 1, which lies above 4", Houses.rect(desk, 1), 1, 21, 3, 22);
        desk.wall(4, 1);
        desk.wall(2, 20);
        desk.plan();
        check.due("wall between 3 and 2, from the south on", Houses.wallOf(desk, 2), 1, 0, 20);
        check.due("0 lies above 3", Houses.rect(desk, 0), 0, 20, 1, 22);
    }

    private static void aboveOneAnother() {
        check.sentence("Terms", "if i is below j, the top of i is the bottom of j, and the rights of both are each at least the lefts"
            + " of both and the wall");
        HouseDesk desk = laidOut(Houses.wheel(), 0, 1, 2, 3);
        check.due("wall between 1 and 2 at first", Houses.wallOf(desk, 1), 3, 2, 3);
        desk.wall(1, 20);
        desk.plan();
        check.due("wall between 1 and 2, where 2 begins", Houses.wallOf(desk, 1), 3, 2, 22);
        check.due("house", Houses.house(desk), 22, 3, 61);
        desk.wall(1, 1);
        desk.wall(5, 20);
        desk.plan();
        check.due("wall between 4 and 1", Houses.wallOf(desk, 5), 2, 1, 21);
        check.due("rect of 2, right of 4", Houses.rect(desk, 2), 21, 0, 22, 2);
        check.due("rect of 3, which needs a wall with 4 alone", Houses.rect(desk, 3), 0, 0, 21, 1);
    }

    private static void atFirst() {
        check.sentence("Terms", "Right is at least left and the WIDTH, top at least bottom and the HEIGHT (1 at first).");
        HouseDesk desk = laidOut(Houses.triangle(), 0, 2, 1, 0);
        check.due("rect of 0", Houses.rect(desk, 0), 0, 0, 1, 2);
        check.due("rect of 1", Houses.rect(desk, 1), 1, 0, 2, 1);
        check.due("rect of 2", Houses.rect(desk, 2), 1, 1, 2, 2);
        desk.least(1, 50, 50);
        desk.plan();
        check.due("rect of 1 with 50 and 50", Houses.rect(desk, 1), 1, 0, 51, 50);
        check.due("rect of 2 beside it", Houses.rect(desk, 2), 1, 50, 51, 51);
        desk.least(1, 2, 1);
        desk.plan();
        check.due("rect of 1 with 2 and 1", Houses.rect(desk, 1), 1, 0, 3, 1);
    }

    private static void atTheSides() {
        check.sentence("Terms", "What is joined with the west has left 0, with the south bottom 0; what is joined with the east has"
            + " the same right, the HOUSE's width; what is joined with the north the same top, its height.");
        HouseDesk desk = Houses.ring();
        desk.least(1, 1, 40);
        desk.least(3, 30, 1);
        check.due("plan()", desk.plan(), 1);
        check.due("house", new int[] {desk.house(0), desk.house(1)}, 32, 44);
        for (int i = 0; i < 3; i++) {
            check.due("top of " + i, desk.rect(i, 3), 44);
            check.due("right of " + (i + 2), desk.rect(i + 2, 2), 32);
            check.due("bottom of " + (i + 4), desk.rect(i + 4, 1), 0);
            check.due("left of " + (i + 6) % 8, desk.rect((i + 6) % 8, 0), 0);
        }
    }

    private static void leastPlaces() {
        check.sentence("Terms", "All places are the least that are so.");
        HouseDesk desk = Houses.ring();
        desk.plan();
        int[][] due = {{0, 3, 1, 5}, {1, 4, 2, 5}, {2, 3, 3, 5}, {2, 2, 3, 3}, {2, 0, 3, 2}, {1, 0, 2, 1}, {0, 0, 1, 2},
            {0, 2, 1, 3}, {1, 1, 2, 4}};
        for (int i = 0; i < 9; i++) {
            check.due("rect of " + i, Houses.rect(desk, i), due[i]);
        }
        desk.least(8, 50, 50);
        desk.plan();
        desk.least(8, 1, 1);
        desk.plan();
        check.due("house, once larger", Houses.house(desk), 3, 5, 6);
    }

    private static void mostPlaces() {
        check.sentence("Terms", "All places are the least that are so.");
        HouseDesk desk = Houses.ring();
        for (int i = 0; i < 9; i++) {
            desk.least(i, 50, 50);
        }
        for (int e = 0; e < 16; e++) {
            desk.wall(e, 20);
        }
        desk.plan();
        int[][] due = {{0, 120, 50, 190}, {50, 140, 100, 190}, {100, 120, 150, 190}, {100, 70, 150, 120}, {100, 0, 150, 70},
            {50, 0, 100, 50}, {0, 0, 50, 70}, {0, 70, 50, 120}, {50, 50, 100, 140}};
        for (int i = 0; i < 9; i++) {
            check.due("rect of " + i + " with the most", Houses.rect(desk, i), due[i]);
        }
        check.due("house with the most", Houses.house(desk), 150, 190, 6000);
    }

    /** Desks without a plan, each for another cause. */
    private static HouseDesk[] withoutPlan() {
        HouseDesk crossed = Houses.square(new int[] {0, 2}, new int[] {1, 3});
        HouseDesk few = new HouseDesk();
        HouseDesk wide = Houses.square();
        HouseDesk unnamed = Houses.triangle();
        HouseDesk loose = Houses.full();
        loose.corners(0, 2, 1, 1);
        HouseDesk[] judged = {crossed, few, wide, unnamed, loose};
        int[] answers = {0, 2, 3, 4, 5};
        for (int k = 0; k < 5; k++) {
            check.due("plan() of a sketch with " + answers[k], judged[k].plan(), answers[k]);
        }
        HouseDesk early = Houses.triangle();
        early.corners(0, 2, 1, 0);
        HouseDesk changed = Houses.planned();
        changed.wall(0, 1);
        HouseDesk cleared = Houses.planned();
        cleared.clear();
        HouseDesk spoilt = Houses.planned();
        spoilt.corners(0, 1, 2, 0);
        spoilt.plan();
        return new HouseDesk[] {crossed, few, wide, unnamed, loose, early, changed, cleared, spoilt};
    }

    // Promise 10

    private static void rectParts() {
        check.sentence("10", "Of a room's rectangle 0 left, 1 bottom, 2 right, 3 top.");
        HouseDesk desk = laidOut(Houses.wheel(), 0, 1, 2, 3);
        check.due("rect of 1", Houses.rect(desk, 1), 1, 2, 3, 3);
        check.due("rect of 4", Houses.rect(desk, 4), 1, 1, 2, 2);
        HouseDesk eight = Houses.ring();
        eight.plan();
        check.due("rect of 8", Houses.rect(eight, 8), 1, 1, 2, 4);
    }

    private static void rectWithoutPlan() {
        check.sentence("10", "NoSuchElementException: there is no plan");
        for (HouseDesk desk : withoutPlan()) {
            check.refused("rect(0, 0)", NONE, () -> desk.rect(0, 0));
            check.refused("rect(0, 3)", NONE, () -> desk.rect(0, 3));
            check.refused("rect(9, 4)", NONE, () -> desk.rect(9, 4));
        }
    }

    private static void rectNotDrawn() {
        check.sentence("10", "IllegalArgumentException: it is not drawn");
        HouseDesk desk = Houses.planned();
        for (int i : new int[] {-1, 3, 8, 9, 32, LEAST, MOST}) {
            check.refused("rect(" + i + ", 0)", WRONG, () -> desk.rect(i, 0));
            check.refused("rect(" + i + ", 3)", WRONG, () -> desk.rect(i, 3));
        }
        check.due("rect of 2 behind them", Houses.rect(desk, 2), 1, 1, 2, 2);
    }

    private static void rectNoPart() {
        check.sentence("10", "or no such part");
        HouseDesk desk = Houses.planned();
        for (int part : new int[] {-1, 4, 5, LEAST, MOST}) {
            check.refused("rect(0, " + part + ")", WRONG, () -> desk.rect(0, part));
        }
        check.due("rect of 0 behind them", Houses.rect(desk, 0), 0, 0, 1, 2);
    }

    // Promise 11

    private static void houseParts() {
        check.sentence("11", "The house's width (0), height (1), or its area less all rooms' width times height as they were wished (2).");
        HouseDesk desk = Houses.planned();
        check.due("house", Houses.house(desk), 2, 2, 1);
        desk.least(0, 1, 2);
        desk.plan();
        check.due("house, nothing to spare", Houses.house(desk), 2, 2, 0);
        desk.least(1, 50, 1);
        desk.plan();
        check.due("house, 2 is wider than it was wished", Houses.house(desk), 51, 2, 49);
        desk.least(0, 50, 1);
        desk.least(1, 1, 50);
        desk.plan();
        check.due("house, 0 is higher than it was wished", Houses.house(desk), 51, 51, 51 * 51 - 101);
        HouseDesk ring = Houses.ring();
        ring.plan();
        check.due("house of nine rooms", Houses.house(ring), 3, 5, 6);
    }

    private static void houseWithoutPlan() {
        check.sentence("11", "NoSuchElementException: there is no plan");
        for (HouseDesk desk : withoutPlan()) {
            check.refused("house(0)", NONE, () -> desk.house(0));
            check.refused("house(2)", NONE, () -> desk.house(2));
            check.refused("house(3)", NONE, () -> desk.house(3));
        }
    }

    private static void houseNoPart() {
        check.sentence("11", "IllegalArgumentException: no such part");
        HouseDesk desk = Houses.planned();
        for (int part : new int[] {-1, 3, 4, LEAST, MOST}) {
            check.refused("house(" + part + ")", WRONG, () -> desk.house(part));
        }
        check.due("house behind them", Houses.house(desk), 2, 2, 1);
    }

    // Promise 12

    private static void wallParts() {
        check.sentence("12", "Of a join its direction (0), where its wall begins (1) and ends (2): the lower or left end first.");
        HouseDesk desk = Houses.planned();
        check.due("wall upward, from the first room named", Houses.wallOf(desk, 0), 0, 0, 1);
        check.due("wall to the right", Houses.wallOf(desk, 1), 2, 1, 2);
        check.due("wall upward, from the second room named", Houses.wallOf(desk, 2), 1, 1, 2);
        desk.least(0, 3, 9);
        desk.least(1, 7, 4);
        desk.plan();
        check.due("wall as long as 1 is high", Houses.wallOf(desk, 0), 0, 0, 4);
        check.due("wall as long as 1 is wide", Houses.wallOf(desk, 1), 2, 3, 10);
        check.due("wall from 4 on", Houses.wallOf(desk, 2), 1, 4, 9);
        HouseDesk wheel = laidOut(Houses.wheel(), 0, 1, 2, 3);
        check.due("wall of 1 and 2, where 2 begins", Houses.wallOf(wheel, 1), 3, 2, 3);
        check.due("wall of 3 and 0, where 3 begins and 0 ends", Houses.wallOf(wheel, 3), 2, 0, 1);
        check.due("wall of 2 and 3, where 2 begins and 3 ends", Houses.wallOf(wheel, 2), 1, 0, 1);
        check.due("wall of 4 and 1, where 4 begins and ends", Houses.wallOf(wheel, 5), 2, 1, 2);
        check.due("wall of 4 and 0, where 4 begins and ends", Houses.wallOf(wheel, 4), 1, 1, 2);
    }

    private static void wallWithoutPlan() {
        check.sentence("12", "NoSuchElementException, IllegalArgumentException likewise.");
        for (HouseDesk desk : withoutPlan()) {
            check.refused("wallOf(0, 0)", NONE, () -> desk.wallOf(0, 0));
            check.refused("wallOf(2, 2)", NONE, () -> desk.wallOf(2, 2));
            check.refused("wallOf(21, 3)", NONE, () -> desk.wallOf(21, 3));
        }
    }

    private static void wallNoJoin() {
        check.sentence("12", "IllegalArgumentException likewise.");
        HouseDesk desk = Houses.planned();
        for (int e : new int[] {-1, 3, 20, 21, LEAST, MOST}) {
            check.refused("wallOf(" + e + ", 0)", WRONG, () -> desk.wallOf(e, 0));
            check.refused("wallOf(" + e + ", 2)", WRONG, () -> desk.wallOf(e, 2));
        }
        for (int part : new int[] {-1, 3, 4, LEAST, MOST}) {
            check.refused("wallOf(0, " + part + ")", WRONG, () -> desk.wallOf(0, part));
        }
        check.due("wall of 2 behind them", Houses.wallOf(desk, 2), 1, 1, 2);
    }

    // Promise 13

    private static void sideLengths() {
        check.sentence("13", "How long a room's wall at a side (0 north, 1 east, 2 south, 3 west) is");
        HouseDesk desk = laidOut(Houses.triangle(), 0, 2, 1, 0);
        desk.least(0, 3, 2);
        desk.least(1, 4, 5);
        desk.least(2, 2, 6);
        desk.plan();
        check.due("sides of 0", Houses.sides(desk, 0), 3, 0, 3, 11);
        check.due("sides of 1", Houses.sides(desk, 1), 0, 5, 4, 0);
        check.due("sides of 2", Houses.sides(desk, 2), 4, 6, 0, 0);
        laidOut(desk, 0, 0, 2, 1);
        check.due("all of the north", Houses.sides(desk, 0), 6, 2, 0, 2);
    }

    private static void sideNotJoined() {
        check.sentence("13", "0 if it is not joined with it");
        HouseDesk desk = Houses.ring();
        desk.least(1, 6, 7);
        desk.least(3, 5, 4);
        desk.plan();
        check.due("sides of 8", Houses.sides(desk, 8), 0, 0, 0, 0);
        check.due("sides of 1", Houses.sides(desk, 1), 6, 0, 0, 0);
        check.due("sides of 3", Houses.sides(desk, 3), 0, 4, 0, 0);
        check.due("sides of 5", Houses.sides(desk, 5), 0, 0, 6, 0);
        check.due("sides of 7", Houses.sides(desk, 7), 0, 0, 0, desk.rect(7, 3) - desk.rect(7, 1));
        check.due("sides of 2", Houses.sides(desk, 2), 5, desk.house(1) - desk.rect(2, 1), 0, 0);
        HouseDesk three = laidOut(Houses.triangle(), 0, 2, 1, 1);
        check.due("three sides of 1", Houses.sides(three, 1), 0, 1, 2, 1);
        check.due("sides of 0", Houses.sides(three, 0), 1, 0, 0, 1);
    }

    private static void sideWithoutPlan() {
        check.sentence("13", "NoSuchElementException, IllegalArgumentException likewise.");
        for (HouseDesk desk : withoutPlan()) {
            check.refused("side(0, 0)", NONE, () -> desk.side(0, 0));
            check.refused("side(1, 3)", NONE, () -> desk.side(1, 3));
            check.refused("side(9, 4)", NONE, () -> desk.side(9, 4));
        }
    }

    private static void sideNotDrawn() {
        check.sentence("13", "IllegalArgumentException likewise.");
        HouseDesk desk = Houses.planned();
        for (int i : new int[] {-1, 3, 8, 9, 32, LEAST, MOST}) {
            check.refused("side(" + i + ", 0)", WRONG, () -> desk.side(i, 0));
            check.refused("side(" + i + ", 3)", WRONG, () -> desk.side(i, 3));
        }
        for (int side : new int[] {-1, 4, 9, 12, LEAST, MOST}) {
            check.refused("side(0, " + side + ")", WRONG, () -> desk.side(0, side));
        }
        check.due("sides of 0 behind them", Houses.sides(desk, 0), 1, 0, 1, 2);
    }
}
