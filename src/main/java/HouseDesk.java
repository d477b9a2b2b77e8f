import java.util.NoSuchElementException;

/**
 * A planner of houses: rooms drawn as points, walls that are wished for between them as straight
 * lines, four corner rooms; it tells what stands against a plan of rectangles with just these
 * walls, or gives one: the first layout, with the least places in it.
 */
public final class HouseDesk {
    private static final int ROOMS = 9;
    private static final int JOINS = 21;
    private static final int SIDES = 4;
    /** The rooms, and behind them the sides north, east, south, west. */
    private static final int NODES = ROOMS + SIDES;
    private static final int NORTH = 0;
    private static final int EAST = 1;
    private static final int POINTS = 32;
    private static final int MOST_SIZE = 50;
    private static final int MOST_WALL = 20;
    /** Left, bottom, right, top: a part and the part two behind it belong to one axis. */
    private static final int PARTS = 4;
    private static final int FAR = 2;

    private static final int CROSSED = 0;
    private static final int PLANNED = 1;
    private static final int NOT_ROUND = 2;
    private static final int WIDE_FACE = 3;
    private static final int NO_CORNERS = 4;
    private static final int LOOSE_TRIANGLE = 5;

    private final Sketch sketch;
    private final Planner planner;
    private final Way latestWay;
    private boolean planned;

    public HouseDesk() {
        sketch = new Sketch();
        planner = new Planner(sketch);
        latestWay = new Way(sketch);
        planned = false;
    }

    public void room(int i, int x, int y) throws IllegalArgumentException, IllegalStateException {
        if (i < 0 || i >= ROOMS || x < 0 || x >= POINTS || y < 0 || y >= POINTS) {
            throw new IllegalArgumentException("no such room or point");
        }
        if (sketch.isDrawn(i) || sketch.isTaken(x, y)) {
            throw new IllegalStateException("the room is drawn, or the point is taken");
        }
        sketch.drawRoom(i, x, y);
        planned = false;
    }

    public int join(int i, int j) throws IllegalArgumentException, IllegalStateException {
        if (i == j || !sketch.isDrawn(i) || !sketch.isDrawn(j)) {
            throw new IllegalArgumentException("not two drawn rooms");
        }
        if (sketch.areJoined(i, j) || sketch.joins >= JOINS) {
            throw new IllegalStateException("they are joined, or there is no join left");
        }
        sketch.drawJoin(i, j);
        planned = false;
        return sketch.joins - 1;
    }

    public void corners(int a, int b, int c, int d) throws IllegalArgumentException {
        if (!sketch.isDrawn(a) || !sketch.isDrawn(b) || !sketch.isDrawn(c) || !sketch.isDrawn(d)) {
            throw new IllegalArgumentException("a corner is not drawn");
        }
        sketch.nameCorners(a, b, c, d);
        planned = false;
    }

    public void least(int i, int width, int height) throws IllegalArgumentException {
        if (!sketch.isDrawn(i) || width < 1 || width > MOST_SIZE || height < 1 || height > MOST_SIZE) {
            throw new IllegalArgumentException("no such room, width or height");
        }
        sketch.width[i] = width;
        sketch.height[i] = height;
        planned = false;
    }

    public void wall(int join, int length) throws IllegalArgumentException {
        if (!sketch.hasJoin(join) || length < 1 || length > MOST_WALL) {
            throw new IllegalArgumentException("no such join or length");
        }
        sketch.wish[join] = length;
        planned = false;
    }

    public void clear() {
        sketch.wipe();
        planned = false;
    }

    public int plan() {
        int answer = planner.judge();
        planned = answer == PLANNED;
        return answer;
    }

    public int witness(int k) {
        return planner.found.at(k);
    }

    public int rect(int i, int part) throws NoSuchElementException, IllegalArgumentException {
        needPlan();
        if (!sketch.isDrawn(i) || part < 0 || part >= PARTS) {
            throw new IllegalArgumentException("no such room or part");
        }
        return planner.places.place[i][part];
    }

    public int house(int part) throws NoSuchElementException, IllegalArgumentException {
        needPlan();
        if (part < 0 || part > 2) {
            throw new IllegalArgumentException("no such part");
        }
        int[] size = planner.places.size;
        return part < 2 ? size[part] : size[0] * size[1] - sketch.wishedArea();
    }

    public int wallOf(int join, int part) throws NoSuchElementException, IllegalArgumentException {
        needPlan();
        if (!sketch.hasJoin(join) || part < 0 || part > 2) {
            throw new IllegalArgumentException("no such join or part");
        }
        if (part == 0) {
            return planner.layout.direction[join];
        }
        return part == 1 ? planner.places.wallBegin(join) : planner.places.wallEnd(join);
    }

    public int side(int i, int side) throws NoSuchElementException, IllegalArgumentException {
        needPlan();
        if (!sketch.isDrawn(i) || side < 0 || side >= SIDES) {
            throw new IllegalArgumentException("no such room or side");
        }
        return planner.sides.isOn(i, side) ? planner.places.lengthAt(i, side) : 0;
    }

    public int way(int i, int j) throws IllegalArgumentException {
        if (!sketch.isDrawn(i) || !sketch.isDrawn(j)) {
            throw new IllegalArgumentException("a room is not drawn");
        }
        return latestWay.find(i, j);
    }

    public int wayRoom(int k) {
        return latestWay.at(k);
    }

    public int count(int what) {
        switch (what) {
            case 0:
                return sketch.rooms;
            case 1:
                return sketch.joins;
            case 2:
                return planner.outlineRooms;
            case 3:
                return planner.innerFaces;
            case 4:
                return planned ? 1 : 0;
            default:
                return -1;
        }
    }

    private void needPlan() throws NoSuchElementException {
        if (!planned) {
            throw new NoSuchElementException("there is no plan");
        }
    }

    /** Sets of nodes, a bit each. */
    private static final class Bits {
        static boolean has(int set, int node) {
            return (set >> node & 1) == 1;
        }

        /** The lowest node of a set, NODES if it is empty. */
        static int lowest(int set) {
            int node = 0;
            while (node < NODES && !has(set, node)) {
                node++;
            }
            return node;
        }

        static int withoutLowest(int set) {
            return set & (set - 1);
        }
    }

    /** What is drawn, named and wished. */
    private static final class Sketch {
        final int[] x = new int[ROOMS];
        final int[] y = new int[ROOMS];
        final int[] width = new int[ROOMS];
        final int[] height = new int[ROOMS];
        /** For each room the rooms that it is joined with, a bit each. */
        final int[] joined = new int[ROOMS];
        final int[] first = new int[JOINS];
        final int[] second = new int[JOINS];
        final int[] wish = new int[JOINS];
        final int[] corner = new int[SIDES];
        boolean cornersNamed;
        int drawn;
        int rooms;
        int joins;

        boolean isDrawn(int i) {
            return i >= 0 && i < ROOMS && Bits.has(drawn, i);
        }

        boolean isTaken(int px, int py) {
            for (int i = 0; i < ROOMS; i++) {
                if (isDrawn(i) && x[i] == px && y[i] == py) {
                    return true;
                }
            }
            return false;
        }

        boolean hasJoin(int join) {
            return join >= 0 && join < joins;
        }

        boolean areJoined(int i, int j) {
            return Bits.has(joined[i], j);
        }

        boolean isEnd(int room, int join) {
            return first[join] == room || second[join] == room;
        }

        void drawRoom(int i, int px, int py) {
            x[i] = px;
            y[i] = py;
            width[i] = 1;
            height[i] = 1;
            joined[i] = 0;
            drawn |= 1 << i;
            rooms++;
        }

        void drawJoin(int i, int j) {
            first[joins] = i;
            second[joins] = j;
            wish[joins] = 1;
            joined[i] |= 1 << j;
            joined[j] |= 1 << i;
            joins++;
        }

        void nameCorners(int a, int b, int c, int d) {
            corner[0] = a;
            corner[1] = b;
            corner[2] = c;
            corner[3] = d;
            cornersNamed = true;
        }

        void wipe() {
            drawn = 0;
            rooms = 0;
            joins = 0;
            cornersNamed = false;
        }

        int wishedArea() {
            int area = 0;
            for (int i = 0; i < ROOMS; i++) {
                if (isDrawn(i)) {
                    area += width[i] * height[i];
                }
            }
            return area;
        }

        /** Below 0 if, seen from room p, room r lies clockwise of room q; 0 if on one line. */
        int turn(int p, int q, int r) {
            return (x[q] - x[p]) * (y[r] - y[p]) - (y[q] - y[p]) * (x[r] - x[p]);
        }
    }

    /** What plan() found against a plan: two or three numbers, or none. */
    private static final class Witness {
        private final int[] number = new int[3];
        private int size;

        void forget() {
            size = 0;
        }

        void tellTwo(int a, int b) {
            number[0] = a;
            number[1] = b;
            size = 2;
        }

        void tellThree(int a, int b, int c) {
            number[0] = a;
            number[1] = b;
            number[2] = c;
            size = 3;
        }

        int at(int k) {
            return k >= 0 && k < size ? number[k] : -1;
        }
    }

    /** Looks at the sketch in the document's order, and plans if nothing stands against it. */
    private static final class Planner {
        final Witness found = new Witness();
        final Sides sides;
        final Layout layout;
        final Places places;
        int outlineRooms;
        int innerFaces;
        private final Sketch sketch;
        private final Crossings crossings;
        private final Walks walks;

        Planner(Sketch drawing) {
            sketch = drawing;
            crossings = new Crossings(drawing);
            walks = new Walks(drawing);
            sides = new Sides(drawing, walks);
            layout = new Layout(drawing, walks, sides);
            places = new Places(drawing, sides, layout);
        }

        int judge() {
            found.forget();
            outlineRooms = 0;
            innerFaces = 0;
            if (crossings.findAny(found)) {
                return CROSSED;
            }
            if (sketch.rooms < 3 || !walks.reachAll() || !walks.goAround()) {
                return NOT_ROUND;
            }
            walks.goInside();
            outlineRooms = walks.length;
            innerFaces = walks.faces;
            if (walks.findWideFace(found)) {
                return WIDE_FACE;
            }
            if (!sides.cornersFit()) {
                return NO_CORNERS;
            }
            sides.joinOutline();
            if (sides.findLooseTriangle(found)) {
                return LOOSE_TRIANGLE;
            }
            sides.takePlaces();
            layout.findFirst();
            places.settle();
            return PLANNED;
        }
    }

    /** Joins that meet where they should not. */
    private static final class Crossings {
        private final Sketch sketch;

        Crossings(Sketch drawing) {
            sketch = drawing;
        }

        boolean findAny(Witness found) {
            return findTwoJoins(found) || findRoomOnJoin(found);
        }

        private boolean findTwoJoins(Witness found) {
            for (int e = 0; e < sketch.joins; e++) {
                for (int f = e + 1; f < sketch.joins; f++) {
                    if (touches(e, f) || touches(f, e) || crosses(e, f)) {
                        found.tellTwo(e, f);
                        return true;
                    }
                }
            }
            return false;
        }

        private boolean findRoomOnJoin(Witness found) {
            for (int e = 0; e < sketch.joins; e++) {
                for (int i = 0; i < ROOMS; i++) {
                    if (sketch.isDrawn(i) && liesOn(i, e)) {
                        found.tellTwo(e, i);
                        return true;
                    }
                }
            }
            return false;
        }

        /** Joins that overlap touch as well: an end of one of them lies on the other. */
        private boolean touches(int e, int f) {
            return liesOn(sketch.first[e], f) || liesOn(sketch.second[e], f);
        }

        private boolean liesOn(int room, int join) {
            if (sketch.isEnd(room, join)) {
                return false;
            }
            int p = sketch.first[join];
            int q = sketch.second[join];
            return sketch.turn(p, q, room) == 0
                && isBetween(sketch.x[room], sketch.x[p], sketch.x[q])
                && isBetween(sketch.y[room], sketch.y[p], sketch.y[q]);
        }

        private static boolean isBetween(int value, int a, int b) {
            return value >= Math.min(a, b) && value <= Math.max(a, b);
        }

        private boolean crosses(int e, int f) {
            return parts(e, f) && parts(f, e);
        }

        /** Whether the ends of f lie on different sides of the line of e. */
        private boolean parts(int e, int f) {
            int p = sketch.first[e];
            int q = sketch.second[e];
            return sketch.turn(p, q, sketch.first[f]) * sketch.turn(p, q, sketch.second[f]) < 0;
        }
    }

    /** The outline and the inner faces of a sketch whose joins do not cross. */
    private static final class Walks {
        private static final int OUTSIDE = -1;
        private static final int NOT_WALKED = -2;
        /** A walk goes along one way of a join at least. */
        private static final int MOST_FACES = 2 * JOINS;

        /** behind[i][n]: what comes next, clockwise around room i, behind node n. */
        final int[][] behind = new int[ROOMS][NODES];
        final int[] outline = new int[ROOMS];
        /** Where on the outline a room is, -1 if it is not. */
        final int[] placeOf = new int[ROOMS];
        int length;
        /** faceOf[i][j]: the inner face whose walk comes from i to j. */
        final int[][] faceOf = new int[ROOMS][ROOMS];
        final int[] faceRooms = new int[MOST_FACES];
        int faces;
        private final Sketch sketch;

        Walks(Sketch drawing) {
            sketch = drawing;
        }

        boolean reachAll() {
            int reached = 1 << Bits.lowest(sketch.drawn);
            for (int round = 0; round < ROOMS; round++) {
                for (int i = 0; i < ROOMS; i++) {
                    if (Bits.has(reached, i)) {
                        reached |= sketch.joined[i];
                    }
                }
            }
            return reached == sketch.drawn;
        }

        /** Walks the outline; false if it comes to a room twice. */
        boolean goAround() {
            orderJoins();
            for (int i = 0; i < ROOMS; i++) {
                placeOf[i] = -1;
            }
            length = 0;
            int start = westmost();
            int second = northmostFrom(start);
            int from = start;
            int to = second;
            for (int step = 0; step <= ROOMS; step++) {
                if (placeOf[from] >= 0) {
                    return from == start && to == second;
                }
                placeOf[from] = length;
                outline[length] = from;
                length++;
                int next = behind[to][from];
                from = to;
                to = next;
            }
            return false;
        }

        private void orderJoins() {
            for (int e = 0; e < sketch.joins; e++) {
                int i = sketch.first[e];
                int j = sketch.second[e];
                behind[i][j] = nextClockwise(i, j);
                behind[j][i] = nextClockwise(j, i);
            }
        }

        private int nextClockwise(int i, int from) {
            int best = from;
            for (int j = 0; j < ROOMS; j++) {
                if (j != from && sketch.areJoined(i, j) && (best == from || isSooner(i, from, j, best))) {
                    best = j;
                }
            }
            return best;
        }

        /** Whether clockwise around i, behind from, j comes before k. */
        private boolean isSooner(int i, int from, int j, int k) {
            boolean jInFirstHalf = sketch.turn(i, from, j) < 0;
            boolean kInFirstHalf = sketch.turn(i, from, k) < 0;
            if (jInFirstHalf != kInFirstHalf) {
                return jInFirstHalf;
            }
            return sketch.turn(i, j, k) < 0;
        }

        private int westmost() {
            int best = -1;
            for (int i = 0; i < ROOMS; i++) {
                if (sketch.isDrawn(i) && (best < 0 || isFurtherWest(i, best))) {
                    best = i;
                }
            }
            return best;
        }

        private boolean isFurtherWest(int i, int j) {
            return sketch.x[i] < sketch.x[j] || sketch.x[i] == sketch.x[j] && sketch.y[i] < sketch.y[j];
        }

        /** From the westmost room all joins lie within half a turn, so comparing two is enough. */
        private int northmostFrom(int start) {
            int best = -1;
            for (int j = 0; j < ROOMS; j++) {
                if (sketch.areJoined(start, j) && (best < 0 || sketch.turn(start, j, best) < 0)) {
                    best = j;
                }
            }
            return best;
        }

        void goInside() {
            faces = 0;
            for (int e = 0; e < sketch.joins; e++) {
                faceOf[sketch.first[e]][sketch.second[e]] = NOT_WALKED;
                faceOf[sketch.second[e]][sketch.first[e]] = NOT_WALKED;
            }
            for (int k = 0; k < length; k++) {
                faceOf[outline[k]][roomBehind(k)] = OUTSIDE;
            }
            for (int e = 0; e < sketch.joins; e++) {
                walkFace(sketch.first[e], sketch.second[e]);
                walkFace(sketch.second[e], sketch.first[e]);
            }
        }

        int roomBehind(int k) {
            return outline[k + 1 < length ? k + 1 : 0];
        }

        int roomBefore(int k) {
            return outline[k > 0 ? k - 1 : length - 1];
        }

        private void walkFace(int i, int j) {
            if (faceOf[i][j] != NOT_WALKED) {
                return;
            }
            int from = i;
            int to = j;
            int met = 0;
            for (int step = 0; step < MOST_FACES && faceOf[from][to] == NOT_WALKED; step++) {
                faceOf[from][to] = faces;
                met |= 1 << from;
                int next = behind[to][from];
                from = to;
                to = next;
            }
            faceRooms[faces] = met;
            faces++;
        }

        boolean findWideFace(Witness found) {
            int best = 0;
            for (int f = 0; f < faces; f++) {
                if (Integer.bitCount(faceRooms[f]) > 3) {
                    int three = threeLeast(faceRooms[f]);
                    if (best == 0 || comesBefore(three, best)) {
                        best = three;
                    }
                }
            }
            if (best != 0) {
                int others = Bits.withoutLowest(best);
                found.tellThree(Bits.lowest(best), Bits.lowest(others), Bits.lowest(Bits.withoutLowest(others)));
            }
            return best != 0;
        }

        private static int threeLeast(int rooms) {
            int others = Bits.withoutLowest(Bits.withoutLowest(Bits.withoutLowest(rooms)));
            return rooms ^ others;
        }

        /** The set that has the least room in which two sets of one size differ comes first. */
        private static boolean comesBefore(int some, int others) {
            return Bits.has(some, Bits.lowest(some ^ others));
        }

        boolean isFace(int rooms) {
            for (int f = 0; f < faces; f++) {
                if (faceRooms[f] == rooms) {
                    return true;
                }
            }
            return false;
        }
    }

    /** The four sides around the outline. */
    private static final class Sides {
        /** For each node the nodes that it is joined with, a bit each. */
        final int[] near = new int[NODES];
        private final Sketch sketch;
        private final Walks walks;

        Sides(Sketch drawing, Walks walked) {
            sketch = drawing;
            walks = walked;
        }

        /** Going on from each corner to the next one, and back to the first, must be one turn. */
        boolean cornersFit() {
            if (!sketch.cornersNamed) {
                return false;
            }
            int steps = 0;
            for (int s = 0; s < SIDES; s++) {
                if (walks.placeOf[sketch.corner[s]] < 0) {
                    return false;
                }
                steps += stepsAlong(s);
            }
            return steps == walks.length;
        }

        private int stepsAlong(int s) {
            int steps = walks.placeOf[lastOf(s)] - walks.placeOf[sketch.corner[s]];
            return steps < 0 ? steps + walks.length : steps;
        }

        private int lastOf(int s) {
            return sketch.corner[sideBehind(s)];
        }

        static int sideBehind(int s) {
            return s < SIDES - 1 ? s + 1 : 0;
        }

        private static int sideBefore(int s) {
            return s > 0 ? s - 1 : SIDES - 1;
        }

        private static int bitOfSide(int s) {
            return 1 << (ROOMS + s);
        }

        boolean isOn(int room, int s) {
            return (near[room] & bitOfSide(s)) != 0;
        }

        void joinOutline() {
            for (int i = 0; i < ROOMS; i++) {
                near[i] = sketch.isDrawn(i) ? sketch.joined[i] : 0;
            }
            for (int s = 0; s < SIDES; s++) {
                near[ROOMS + s] = bitOfSide(sideBehind(s)) | bitOfSide(sideBefore(s));
            }
            for (int s = 0; s < SIDES; s++) {
                int room = sketch.corner[s];
                int steps = stepsAlong(s);
                for (int step = 0; step <= steps; step++) {
                    near[ROOMS + s] |= 1 << room;
                    near[room] |= bitOfSide(s);
                    room = walks.roomBehind(walks.placeOf[room]);
                }
            }
        }

        boolean findLooseTriangle(Witness found) {
            for (int i = 0; i < NODES; i++) {
                for (int j = i + 1; j < NODES; j++) {
                    int third = Bits.has(near[i], j) ? looseThird(i, j) : -1;
                    if (third >= 0) {
                        found.tellThree(i, j, third);
                        return true;
                    }
                }
            }
            return false;
        }

        private int looseThird(int i, int j) {
            int both = near[i] & near[j];
            for (int k = j + 1; k < NODES; k++) {
                if (Bits.has(both, k) && !boundsFace(i, j, k)) {
                    return k;
                }
            }
            return -1;
        }

        /** The nodes come upward, so the sides come last. */
        private boolean boundsFace(int i, int j, int k) {
            if (k < ROOMS) {
                return walks.isFace(1 << i | 1 << j | 1 << k);
            }
            if (j < ROOMS) {
                return follows(i, j, k - ROOMS) || follows(j, i, k - ROOMS);
            }
            boolean lastAndFirst = j == ROOMS && k == NODES - 1;
            return i < ROOMS && sketch.corner[lastAndFirst ? 0 : k - ROOMS] == i;
        }

        /** Whether side s goes on from room i to room j. */
        private boolean follows(int i, int j, int s) {
            return i != lastOf(s) && walks.roomBehind(walks.placeOf[i]) == j;
        }

        /** Puts the sides in their place around the rooms of the outline. */
        void takePlaces() {
            for (int k = 0; k < walks.length; k++) {
                int room = walks.outline[k];
                int before = walks.roomBefore(k);
                int s = firstSideOf(room);
                for (int n = 0; n < SIDES && isOn(room, s); n++) {
                    walks.behind[room][before] = ROOMS + s;
                    before = ROOMS + s;
                    s = sideBehind(s);
                }
                walks.behind[room][before] = walks.roomBehind(k);
            }
        }

        /** Where a room has several sides they follow one another: the first has none before it. */
        int firstSideOf(int room) {
            for (int s = 0; s < SIDES; s++) {
                if (isOn(room, s) && !isOn(room, sideBefore(s))) {
                    return s;
                }
            }
            return NORTH;
        }
    }

    /**
     * The first layout. Where three rooms bound an inner face, two have a corner of theirs, and
     * along the third one the wall goes straight on; a room has four corners. So a layout is a
     * choice of the straight room of each inner face that leaves each room just four corners.
     * (Where a side meets rooms, all these have a corner.)
     */
    private static final class Layout {
        /** The direction of a join whose second room lies above, right, below, left of its first. */
        private static final int[] DIRECTION = {2, 0, 3, 1};

        final int[] direction = new int[JOINS];
        /** The rooms of the faces, three for each, and the straight one of each. */
        private final int[] bounding = new int[3 * Walks.MOST_FACES];
        private final int[] straight = new int[Walks.MOST_FACES];
        /** How many faces a room must still be straight in, and how many are still to be chosen. */
        private final int[] needed = new int[ROOMS];
        private final int[] open = new int[ROOMS];
        /** bearing[i][n]: where node n lies, seen from room i: the number of that side. */
        private final int[][] bearing = new int[ROOMS][NODES];
        /** The rooms, each with a node (its anchor) whose bearing is known when its turn comes. */
        private final int[] order = new int[ROOMS];
        private final int[] anchor = new int[ROOMS];
        private boolean found;
        private final Sketch sketch;
        private final Walks walks;
        private final Sides sides;

        Layout(Sketch drawing, Walks walked, Sides around) {
            sketch = drawing;
            walks = walked;
            sides = around;
        }

        void findFirst() {
            found = false;
            for (int i = 0; i < ROOMS; i++) {
                needed[i] = Integer.bitCount(sides.near[i]) - 4;
                open[i] = 0;
            }
            for (int f = 0; f < walks.faces; f++) {
                listRooms(f);
                shiftOpen(f, 1);
            }
            orderRooms();
            choose(0);
        }

        private void listRooms(int f) {
            int rest = walks.faceRooms[f];
            for (int k = 3 * f; k < 3 * f + 3; k++) {
                bounding[k] = Bits.lowest(rest);
                rest = Bits.withoutLowest(rest);
            }
        }

        private void orderRooms() {
            int known = 0;
            for (int k = 0; k < walks.length; k++) {
                order[k] = walks.outline[k];
                anchor[k] = ROOMS + sides.firstSideOf(order[k]);
                known |= 1 << order[k];
            }
            int size = walks.length;
            for (int k = 0; k < size && k < ROOMS; k++) {
                for (int j = 0; j < ROOMS; j++) {
                    if (sketch.areJoined(order[k], j) && !Bits.has(known, j)) {
                        order[size] = j;
                        anchor[size] = order[k];
                        known |= 1 << j;
                        size++;
                    }
                }
            }
        }

        /** Tries each straight room for face f and all behind it; there are at most 13 faces. */
        private void choose(int f) {
            if (f >= walks.faces) {
                weigh();
                return;
            }
            shiftOpen(f, -1);
            for (int k = 3 * f; k < 3 * f + 3; k++) {
                int room = bounding[k];
                straight[f] = room;
                needed[room]--;
                if (needed[room] >= 0 && canBeMet(f)) {
                    choose(f + 1);
                }
                needed[room]++;
            }
            shiftOpen(f, 1);
        }

        private void shiftOpen(int f, int by) {
            for (int k = 3 * f; k < 3 * f + 3; k++) {
                open[bounding[k]] += by;
            }
        }

        /** Leaves a choice early if a room would have too few faces left to be straight in. */
        private boolean canBeMet(int f) {
            for (int k = 3 * f; k < 3 * f + 3; k++) {
                if (needed[bounding[k]] > open[bounding[k]]) {
                    return false;
                }
            }
            return true;
        }

        /** Keeps the layout that has been chosen if it comes before the best one so far. */
        private void weigh() {
            for (int k = 0; k < sketch.rooms; k++) {
                lookAround(order[k], anchor[k]);
            }
            if (!found || isSooner()) {
                found = true;
                for (int e = 0; e < sketch.joins; e++) {
                    direction[e] = directionOf(e);
                }
            }
        }

        private void lookAround(int room, int from) {
            int where = from >= ROOMS ? from - ROOMS : opposite(bearing[from][room]);
            int node = from;
            for (int n = Integer.bitCount(sides.near[room]); n > 0; n--) {
                bearing[room][node] = where;
                int next = walks.behind[room][node];
                if (hasCorner(room, node, next)) {
                    where = Sides.sideBehind(where);
                }
                node = next;
            }
        }

        private static int opposite(int where) {
            return Sides.sideBehind(Sides.sideBehind(where));
        }

        private boolean hasCorner(int room, int node, int next) {
            return node >= ROOMS || next >= ROOMS || straight[walks.faceOf[node][room]] != room;
        }

        private int directionOf(int join) {
            return DIRECTION[bearing[sketch.first[join]][sketch.second[join]]];
        }

        private boolean isSooner() {
            for (int e = 0; e < sketch.joins; e++) {
                int now = directionOf(e);
                if (now != direction[e]) {
                    return now < direction[e];
                }
            }
            return false;
        }
    }

    /** The least places of a layout. */
    private static final class Places {
        /** An axis has 19 places, and each round settles one at least: this is far above. */
        private static final int ROUNDS = 100;

        final int[][] place = new int[ROOMS][PARTS];
        /** The house's width and height. */
        final int[] size = new int[2];
        private boolean raised;
        private final Sketch sketch;
        private final Sides sides;
        private final Layout layout;

        Places(Sketch drawing, Sides around, Layout laid) {
            sketch = drawing;
            sides = around;
            layout = laid;
        }

        /** Raises what is too low until nothing is: so each place is the least one. */
        void settle() {
            for (int i = 0; i < ROOMS; i++) {
                for (int part = 0; part < PARTS; part++) {
                    place[i][part] = 0;
                }
            }
            raised = true;
            for (int round = 0; round < ROUNDS && raised; round++) {
                raised = false;
                for (int e = 0; e < sketch.joins; e++) {
                    meet(e);
                    overlap(e);
                }
                for (int i = 0; i < ROOMS; i++) {
                    if (sketch.isDrawn(i)) {
                        raise(i, FAR, place[i][0] + sketch.width[i]);
                        raise(i, 1 + FAR, place[i][1] + sketch.height[i]);
                    }
                }
                reachOut(0, EAST);
                reachOut(1, NORTH);
            }
        }

        private void raise(int i, int part, int to) {
            if (place[i][part] < to) {
                place[i][part] = to;
                raised = true;
            }
        }

        /** 0 if the rooms of the join lie beside one another, 1 if one lies above the other. */
        private int axisOf(int join) {
            return layout.direction[join] >> 1;
        }

        private void meet(int join) {
            int axis = axisOf(join);
            boolean inOrder = (layout.direction[join] & 1) == 0;
            int low = inOrder ? sketch.first[join] : sketch.second[join];
            int high = inOrder ? sketch.second[join] : sketch.first[join];
            raise(low, axis + FAR, place[high][axis]);
            raise(high, axis, place[low][axis + FAR]);
        }

        private void overlap(int join) {
            int axis = 1 - axisOf(join);
            int end = wallBegin(join) + sketch.wish[join];
            raise(sketch.first[join], axis + FAR, end);
            raise(sketch.second[join], axis + FAR, end);
        }

        private void reachOut(int axis, int side) {
            int most = 0;
            for (int i = 0; i < ROOMS; i++) {
                if (sides.isOn(i, side)) {
                    most = Math.max(most, place[i][axis + FAR]);
                }
            }
            for (int i = 0; i < ROOMS; i++) {
                if (sides.isOn(i, side)) {
                    raise(i, axis + FAR, most);
                }
            }
            size[axis] = most;
        }

        int wallBegin(int join) {
            int axis = 1 - axisOf(join);
            return Math.max(place[sketch.first[join]][axis], place[sketch.second[join]][axis]);
        }

        int wallEnd(int join) {
            int part = 1 - axisOf(join) + FAR;
            return Math.min(place[sketch.first[join]][part], place[sketch.second[join]][part]);
        }

        /** A wall at the north or south is as long as its room is wide. */
        int lengthAt(int i, int side) {
            int axis = side & 1;
            return place[i][axis + FAR] - place[i][axis];
        }
    }

    /** The way that was asked for last. */
    private static final class Way {
        private final int[] room = new int[ROOMS];
        private int size;
        /** How many rooms the shortest way from a room to the goal has, 0 if none is known. */
        private final int[] far = new int[ROOMS];
        private final Sketch sketch;

        Way(Sketch drawing) {
            sketch = drawing;
        }

        int find(int from, int goal) {
            measure(goal);
            size = far[from];
            int here = from;
            for (int k = 0; k < size; k++) {
                room[k] = here;
                here = leastStep(here);
            }
            return size;
        }

        private void measure(int goal) {
            for (int i = 0; i < ROOMS; i++) {
                far[i] = 0;
            }
            far[goal] = 1;
            for (int done = 1; done < ROOMS; done++) {
                for (int i = 0; i < ROOMS; i++) {
                    if (far[i] == done) {
                        measureAround(i);
                    }
                }
            }
        }

        private void measureAround(int i) {
            for (int j = 0; j < ROOMS; j++) {
                if (sketch.areJoined(i, j) && far[j] == 0) {
                    far[j] = far[i] + 1;
                }
            }
        }

        private int leastStep(int here) {
            for (int j = 0; j < ROOMS; j++) {
                if (sketch.areJoined(here, j) && far[j] == far[here] - 1) {
                    return j;
                }
            }
            return here;
        }

        int at(int k) {
            return k >= 0 && k < size ? room[k] : -1;
        }
    }
}
