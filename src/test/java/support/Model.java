import java.util.ArrayList;
import java.util.Arrays;
import java.util.Collections;
import java.util.HashSet;
import java.util.List;
import java.util.NoSuchElementException;
import java.util.Set;
import java.util.TreeSet;

/**
 * The document's words turned into slow, plain code, by other means than the program's wherever
 * there is a choice (angles instead of cross products, a search over the joins' directions
 * instead of one over the faces, merged lines and longest ways instead of raising places).
 */
final class Model {
    private final int[][] point = new int[9][];
    private final int[][] size = new int[9][];
    private final List<int[]> joins = new ArrayList<>();
    private final List<Integer> walls = new ArrayList<>();
    private int[] corner;
    private boolean planned;
    private List<Integer> witness = List.of();
    private List<Integer> way = List.of();
    private int outlineRooms;
    private int innerFaces;

    private List<Integer> outline;
    private final List<Set<Integer>> faces = new ArrayList<>();
    /** Sides as runs of outline rooms, and where in the turn from corner a each begins and ends. */
    private final List<List<Integer>> run = new ArrayList<>();
    private int[] turnAt;
    private final boolean[][] near = new boolean[13][13];
    private final List<List<Integer>> ring = new ArrayList<>();
    private int[] direction;
    private final int[][] rect = new int[9][4];
    private int[] house;
    int layouts;

    void room(int i, int x, int y) {
        if (i < 0 || i > 8 || x < 0 || x > 31 || y < 0 || y > 31) {
            throw new IllegalArgumentException();
        }
        for (int j = 0; j < 9; j++) {
            if (point[j] != null && (i == j || Arrays.equals(point[j], new int[] {x, y}))) {
                throw new IllegalStateException();
            }
        }
        point[i] = new int[] {x, y};
        size[i] = new int[] {1, 1};
        planned = false;
    }

    int join(int i, int j) {
        if (i == j || !drawn(i) || !drawn(j)) {
            throw new IllegalArgumentException();
        }
        if (joined(i, j) || joins.size() == 21) {
            throw new IllegalStateException();
        }
        joins.add(new int[] {i, j});
        walls.add(1);
        planned = false;
        return joins.size() - 1;
    }

    void corners(int a, int b, int c, int d) {
        if (!drawn(a) || !drawn(b) || !drawn(c) || !drawn(d)) {
            throw new IllegalArgumentException();
        }
        corner = new int[] {a, b, c, d};
        planned = false;
    }

    void least(int i, int width, int height) {
        if (!drawn(i) || width < 1 || width > 50 || height < 1 || height > 50) {
            throw new IllegalArgumentException();
        }
        size[i] = new int[] {width, height};
        planned = false;
    }

    void wall(int join, int length) {
        if (join < 0 || join >= joins.size() || length < 1 || length > 20) {
            throw new IllegalArgumentException();
        }
        walls.set(join, length);
        planned = false;
    }

    void clear() {
        Arrays.fill(point, null);
        Arrays.fill(size, null);
        joins.clear();
        walls.clear();
        corner = null;
        planned = false;
    }

    int witness(int k) {
        return k >= 0 && k < witness.size() ? witness.get(k) : -1;
    }

    int rect(int i, int part) {
        needPlan();
        need(drawn(i) && part >= 0 && part < 4);
        return rect[i][part];
    }

    int house(int part) {
        needPlan();
        need(part >= 0 && part < 3);
        int wished = 0;
        for (int[] s : size) {
            wished += s == null ? 0 : s[0] * s[1];
        }
        return part < 2 ? house[part] : house[0] * house[1] - wished;
    }

    int wallOf(int join, int part) {
        needPlan();
        need(join >= 0 && join < joins.size() && part >= 0 && part < 3);
        int[] i = rect[joins.get(join)[0]];
        int[] j = rect[joins.get(join)[1]];
        int d = direction[join];
        if (part == 0) {
            return d;
        }
        int low = d < 2 ? 1 : 0;
        return part == 1 ? Math.max(i[low], j[low]) : Math.min(i[low + 2], j[low + 2]);
    }

    int side(int i, int side) {
        needPlan();
        need(drawn(i) && side >= 0 && side < 4);
        if (!near[i][9 + side]) {
            return 0;
        }
        return side == 0 || side == 2 ? rect[i][2] - rect[i][0] : rect[i][3] - rect[i][1];
    }

    int way(int i, int j) {
        need(drawn(i) && drawn(j));
        way = List.of();
        List<List<Integer>> ways = List.of(List.of(i));
        for (int length = 1; length <= 9 && way.isEmpty(); length++) {
            List<List<Integer>> longer = new ArrayList<>();
            for (List<Integer> w : ways) {
                int last = w.get(w.size() - 1);
                if (last == j) {
                    way = w;
                    break;
                }
                for (int k = 0; k < 9; k++) {
                    if (!w.contains(k) && joined(last, k)) {
                        List<Integer> more = new ArrayList<>(w);
                        more.add(k);
                        longer.add(more);
                    }
                }
            }
            ways = longer;
        }
        return way.size();
    }

    int wayRoom(int k) {
        return k >= 0 && k < way.size() ? way.get(k) : -1;
    }

    int count(int what) {
        int rooms = 0;
        for (int i = 0; i < 9; i++) {
            rooms += drawn(i) ? 1 : 0;
        }
        int[] all = {rooms, joins.size(), outlineRooms, innerFaces, planned ? 1 : 0};
        return what >= 0 && what < all.length ? all[what] : -1;
    }

    int plan() {
        planned = false;
        witness = List.of();
        outlineRooms = 0;
        innerFaces = 0;
        int answer = judge();
        if (answer != 0 && answer != 2) {
            outlineRooms = outline.size();
            innerFaces = faces.size();
        }
        planned = answer == 1;
        return answer;
    }

    List<Integer> outline() {
        return outline;
    }

    private int judge() {
        if (crossed()) {
            return 0;
        }
        if (!round()) {
            return 2;
        }
        walkFaces();
        if (wideFace()) {
            return 3;
        }
        if (!cornersFit()) {
            return 4;
        }
        if (looseTriangle()) {
            return 5;
        }
        layOut();
        place();
        return 1;
    }

    private boolean drawn(int i) {
        return i >= 0 && i < 9 && point[i] != null;
    }

    private boolean joined(int i, int j) {
        for (int[] e : joins) {
            if (e[0] == i && e[1] == j || e[0] == j && e[1] == i) {
                return true;
            }
        }
        return false;
    }

    private void needPlan() {
        if (!planned) {
            throw new NoSuchElementException();
        }
    }

    private static void need(boolean right) {
        if (!right) {
            throw new IllegalArgumentException();
        }
    }

    // 0

    private boolean crossed() {
        for (int e = 0; e < joins.size(); e++) {
            for (int f = e + 1; f < joins.size(); f++) {
                if (shareInnerPoint(joins.get(e), joins.get(f))) {
                    witness = List.of(e, f);
                    return true;
                }
            }
        }
        for (int e = 0; e < joins.size(); e++) {
            for (int r = 0; r < 9; r++) {
                int p = joins.get(e)[0];
                int q = joins.get(e)[1];
                if (drawn(r) && r != p && r != q && Math.abs(far(p, r) + far(r, q) - far(p, q)) < 1e-9) {
                    witness = List.of(e, r);
                    return true;
                }
            }
        }
        return false;
    }

    private double far(int p, int q) {
        return Math.hypot(point[p][0] - point[q][0], point[p][1] - point[q][1]);
    }

    private boolean shareInnerPoint(int[] e, int[] f) {
        for (int u = 0; u < 2; u++) {
            for (int v = 0; v < 2; v++) {
                if (e[u] == f[v]) {
                    return Math.abs(angle(e[u], e[1 - u]) - angle(f[v], f[1 - v])) < 1e-9;
                }
            }
        }
        int[] p = point[e[0]];
        int[] q = point[f[0]];
        int[] along = {point[e[1]][0] - p[0], point[e[1]][1] - p[1]};
        int[] across = {point[f[1]][0] - q[0], point[f[1]][1] - q[1]};
        int[] between = {q[0] - p[0], q[1] - p[1]};
        int slope = cross(along, across);
        if (slope != 0) {
            double t = (double) cross(between, across) / slope;
            double u = (double) cross(between, along) / slope;
            return t >= 0 && t <= 1 && u >= 0 && u <= 1;
        }
        int square = along[0] * along[0] + along[1] * along[1];
        int begin = between[0] * along[0] + between[1] * along[1];
        int end = begin + across[0] * along[0] + across[1] * along[1];
        return cross(between, along) == 0 && Math.max(begin, end) >= 0 && Math.min(begin, end) <= square;
    }

    private static int cross(int[] v, int[] w) {
        return v[0] * w[1] - v[1] * w[0];
    }

    private double angle(int from, int to) {
        return Math.atan2(point[to][1] - point[from][1], point[to][0] - point[from][0]);
    }

    // 2 and 3

    /** The joined room that comes first clockwise behind a direction; a full turn is the last. */
    private int firstBehind(int room, double from) {
        int best = -1;
        double least = 99;
        for (int j = 0; j < 9; j++) {
            if (joined(room, j)) {
                double turn = from - angle(room, j);
                while (turn < 1e-9) {
                    turn += 2 * Math.PI;
                }
                if (turn < least) {
                    least = turn;
                    best = j;
                }
            }
        }
        return best;
    }

    private boolean round() {
        List<Integer> rooms = new ArrayList<>();
        for (int i = 0; i < 9; i++) {
            if (drawn(i)) {
                rooms.add(i);
            }
        }
        if (rooms.size() < 3) {
            return false;
        }
        List<Integer> kept = way;
        boolean apart = false;
        for (int i : rooms) {
            apart |= way(rooms.get(0), i) == 0;
        }
        way = kept;
        if (apart) {
            return false;
        }
        int start = Collections.min(rooms, (i, j) -> point[i][0] != point[j][0]
            ? point[i][0] - point[j][0] : point[i][1] - point[j][1]);
        outline = walk(start, firstBehind(start, Math.PI));
        return new HashSet<>(outline).size() == outline.size();
    }

    private List<Integer> walk(int start, int second) {
        List<Integer> rooms = new ArrayList<>();
        int from = start;
        int to = second;
        do {
            rooms.add(from);
            int next = firstBehind(to, angle(to, from));
            from = to;
            to = next;
        } while (from != start || to != second);
        return rooms;
    }

    private void walkFaces() {
        faces.clear();
        Set<Integer> ways = new HashSet<>();
        markWalk(outline, ways);
        for (int i = 0; i < 9; i++) {
            for (int j = 0; j < 9; j++) {
                if (drawn(i) && drawn(j) && joined(i, j) && !ways.contains(9 * i + j)) {
                    List<Integer> walk = walk(i, j);
                    markWalk(walk, ways);
                    faces.add(new TreeSet<>(walk));
                }
            }
        }
    }

    private static void markWalk(List<Integer> walk, Set<Integer> ways) {
        for (int k = 0; k < walk.size(); k++) {
            ways.add(9 * walk.get(k) + walk.get((k + 1) % walk.size()));
        }
    }

    private boolean wideFace() {
        List<List<Integer>> wide = new ArrayList<>();
        for (Set<Integer> f : faces) {
            if (f.size() > 3) {
                wide.add(new ArrayList<>(f));
            }
        }
        if (wide.isEmpty()) {
            return false;
        }
        wide.sort((f, g) -> Arrays.compare(f.stream().mapToInt(r -> r).toArray(), g.stream().mapToInt(r -> r).toArray()));
        witness = wide.get(0).subList(0, 3);
        return true;
    }

    // 4 and 5

    private boolean cornersFit() {
        if (corner == null || Arrays.stream(corner).distinct().count() == 1 || !outline.contains(corner[0])) {
            return false;
        }
        int n = outline.size();
        List<Integer> turn = new ArrayList<>();
        for (int k = 0; k <= n; k++) {
            turn.add(outline.get((outline.indexOf(corner[0]) + k) % n));
        }
        for (int b = 0; b <= n; b++) {
            for (int c = b; c <= n; c++) {
                for (int d = c; d <= n; d++) {
                    if (turn.get(b) == corner[1] && turn.get(c) == corner[2] && turn.get(d) == corner[3]) {
                        turnAt = new int[] {0, b, c, d, n};
                        run.clear();
                        for (int s = 0; s < 4; s++) {
                            run.add(turn.subList(turnAt[s], turnAt[s + 1] + 1));
                        }
                        return true;
                    }
                }
            }
        }
        return false;
    }

    private boolean looseTriangle() {
        Set<Set<Integer>> bounding = new HashSet<>(faces);
        for (int i = 0; i < 13; i++) {
            for (int j = 0; j < 13; j++) {
                near[i][j] = i < 9 && j < 9 && joined(i, j);
            }
        }
        for (int s = 0; s < 4; s++) {
            int next = (s + 1) % 4;
            near[9 + s][9 + next] = true;
            near[9 + next][9 + s] = true;
            bounding.add(Set.of(9 + s, 9 + next, corner[next]));
            for (int r : run.get(s)) {
                near[r][9 + s] = true;
                near[9 + s][r] = true;
            }
            for (int k = 1; k < run.get(s).size(); k++) {
                bounding.add(Set.of(9 + s, run.get(s).get(k - 1), run.get(s).get(k)));
            }
        }
        for (int i = 0; i < 13; i++) {
            for (int j = i + 1; j < 13; j++) {
                for (int k = j + 1; k < 13; k++) {
                    if (near[i][j] && near[j][k] && near[i][k] && !bounding.contains(Set.of(i, j, k))) {
                        witness = List.of(i, j, k);
                        return true;
                    }
                }
            }
        }
        return false;
    }

    // The layout

    private void layOut() {
        ring.clear();
        for (int i = 0; i < 9; i++) {
            ring.add(drawn(i) ? ringOf(i) : List.of());
        }
        direction = new int[joins.size()];
        Arrays.fill(direction, -1);
        if (!direct(0)) {
            throw new AssertionError("no layout");
        }
    }

    /** How many layouts there are; the latest plan() must have answered 1. */
    int countLayouts() {
        layouts = 0;
        int[] kept = direction;
        direction = new int[joins.size()];
        Arrays.fill(direction, -1);
        countFrom(0);
        direction = kept;
        return layouts;
    }

    private void countFrom(int e) {
        if (e == joins.size()) {
            layouts++;
            return;
        }
        for (int d = 0; d < 4; d++) {
            direction[e] = d;
            if (canBe(joins.get(e)[0]) && canBe(joins.get(e)[1])) {
                countFrom(e + 1);
            }
        }
        direction[e] = -1;
    }

    private List<Integer> ringOf(int i) {
        List<Integer> nodes = new ArrayList<>();
        int place = outline.indexOf(i);
        int n = outline.size();
        int first = place >= 0 ? outline.get((place + n - 1) % n) : firstBehind(i, 0);
        int j = first;
        do {
            nodes.add(j);
            if (place >= 0 && j == first) {
                addSides(i, nodes);
            }
            j = firstBehind(i, angle(i, j));
        } while (j != first);
        return nodes;
    }

    private void addSides(int i, List<Integer> nodes) {
        List<Integer> late = new ArrayList<>();
        for (int s = 0; s < 4; s++) {
            if (run.get(s).contains(i)) {
                boolean comesBack = turnAt[s + 1] == outline.size();
                if (i == corner[0] && !comesBack) {
                    late.add(9 + s);
                } else {
                    nodes.add(9 + s);
                }
            }
        }
        nodes.addAll(late);
    }

    private boolean direct(int e) {
        if (e == joins.size()) {
            return true;
        }
        for (int d = 0; d < 4; d++) {
            direction[e] = d;
            if (canBe(joins.get(e)[0]) && canBe(joins.get(e)[1]) && direct(e + 1)) {
                return true;
            }
        }
        direction[e] = -1;
        return false;
    }

    /** 0 above, 1 right, 2 below, 3 left of room i, -1 not known yet. */
    private int seenFrom(int i, int node) {
        if (node >= 9) {
            return node - 9;
        }
        for (int e = 0; e < joins.size(); e++) {
            int[] ends = joins.get(e);
            if (ends[0] == i && ends[1] == node) {
                return direction[e] < 0 ? -1 : new int[] {1, 3, 0, 2}[direction[e]];
            }
            if (ends[1] == i && ends[0] == node) {
                return direction[e] < 0 ? -1 : new int[] {3, 1, 2, 0}[direction[e]];
            }
        }
        throw new AssertionError("not joined");
    }

    /** Whether what is known around room i can still be four pieces, none missing, in order. */
    private boolean canBe(int i) {
        int n = ring.get(i).size();
        int[] seen = new int[n];
        for (int k = 0; k < n; k++) {
            seen[k] = seenFrom(i, ring.get(i).get(k));
        }
        for (int start = 0; start < n; start++) {
            for (int b = 1; b < n; b++) {
                for (int c = b + 1; c < n; c++) {
                    for (int d = c + 1; d < n; d++) {
                        boolean fits = true;
                        for (int k = 0; k < n && fits; k++) {
                            int piece = k < b ? 0 : k < c ? 1 : k < d ? 2 : 3;
                            int known = seen[(start + k) % n];
                            fits = known < 0 || known == piece;
                        }
                        if (fits) {
                            return true;
                        }
                    }
                }
            }
        }
        return false;
    }

    // The places

    private void place() {
        house = new int[] {placeAxis(0), placeAxis(1)};
    }

    /** Lines that must be the same are merged; a line's place is the longest way to it. */
    private int placeAxis(int axis) {
        int[] line = new int[20];
        for (int k = 0; k < 20; k++) {
            line[k] = k;
        }
        int zero = 18;
        int end = 19;
        int lowSide = axis == 0 ? 12 : 11;
        int highSide = axis == 0 ? 10 : 9;
        List<int[]> apart = new ArrayList<>();
        for (int i = 0; i < 9; i++) {
            if (drawn(i)) {
                if (near[i][lowSide]) {
                    merge(line, 2 * i, zero);
                }
                if (near[i][highSide]) {
                    merge(line, 2 * i + 1, end);
                }
                apart.add(new int[] {2 * i, 2 * i + 1, size[i][axis]});
            }
        }
        for (int e = 0; e < joins.size(); e++) {
            int i = joins.get(e)[0];
            int j = joins.get(e)[1];
            if (direction[e] == 2 * axis) {
                merge(line, 2 * i + 1, 2 * j);
            } else if (direction[e] == 2 * axis + 1) {
                merge(line, 2 * j + 1, 2 * i);
            } else {
                for (int low : new int[] {i, j}) {
                    for (int high : new int[] {i, j}) {
                        apart.add(new int[] {2 * low, 2 * high + 1, walls.get(e)});
                    }
                }
            }
        }
        for (int i = 0; i < 9; i++) {
            if (drawn(i)) {
                rect[i][axis] = longest(line, apart, line[2 * i], 0);
                rect[i][axis + 2] = longest(line, apart, line[2 * i + 1], 0);
            }
        }
        if (longest(line, apart, line[zero], 0) != 0) {
            throw new AssertionError("a line at the wall was pushed away");
        }
        return longest(line, apart, line[end], 0);
    }

    private static void merge(int[] line, int p, int q) {
        int from = line[p];
        int to = line[q];
        for (int k = 0; k < line.length; k++) {
            if (line[k] == from) {
                line[k] = to;
            }
        }
    }

    private static int longest(int[] line, List<int[]> apart, int at, int depth) {
        if (depth > 20) {
            throw new AssertionError("a ring of lines");
        }
        int most = 0;
        for (int[] a : apart) {
            if (line[a[1]] == at) {
                most = Math.max(most, longest(line, apart, line[a[0]], depth + 1) + a[2]);
            }
        }
        return most;
    }
}
