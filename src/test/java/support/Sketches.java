import java.util.ArrayList;
import java.util.Collections;
import java.util.List;
import java.util.Random;

/** Makes sketches by chance, from a seed: the calls that draw them, as rows of numbers. */
final class Sketches {
    final List<int[]> rooms = new ArrayList<>();
    final List<int[]> joins = new ArrayList<>();
    int[] corners;
    private final Random random;

    Sketches(Random from) {
        random = from;
    }

    /** Points anywhere, lines anywhere. */
    void scatter(int n, int lines, int grid) {
        placeRooms(n, grid);
        for (int k = 0; k < lines; k++) {
            int i = random.nextInt(n);
            int j = random.nextInt(n);
            if (i != j && !isJoined(i, j)) {
                joins.add(new int[] {i, j});
            }
        }
    }

    /** As many lines as fit without a crossing, then some taken away again. */
    void fill(int n, int grid, int away) {
        placeRooms(n, grid);
        List<int[]> pairs = new ArrayList<>();
        for (int i = 0; i < n; i++) {
            for (int j = i + 1; j < n; j++) {
                pairs.add(random.nextBoolean() ? new int[] {i, j} : new int[] {j, i});
            }
        }
        Collections.shuffle(pairs, random);
        for (int[] pair : pairs) {
            if (joins.size() < 21 && isFree(pair)) {
                joins.add(pair);
            }
        }
        for (int k = 0; k < away && !joins.isEmpty(); k++) {
            joins.remove(random.nextInt(joins.size()));
        }
        Collections.shuffle(joins, random);
    }

    private boolean isFree(int[] pair) {
        Model model = new Model();
        draw(model);
        model.join(pair[0], pair[1]);
        return model.plan() != 0;
    }

    /**
     * Fills a board of cells with rectangles, and draws which of them share a wall; what has four
     * rooms at one point or too many rooms is left to plan() to refuse.
     */
    boolean tile(int cells) {
        int[][] owner = new int[cells][cells];
        int n = cover(owner);
        if (n < 3 || n > 9) {
            return false;
        }
        List<Integer> around = around(owner);
        if (around.stream().distinct().count() != around.size()) {
            return false;
        }
        boolean[][] near = nearness(owner, n);
        double[][] spot = spots(around, near, n);
        List<Integer> name = new ArrayList<>(List.of(0, 1, 2, 3, 4, 5, 6, 7, 8));
        Collections.shuffle(name, random);
        for (int i = 0; i < n; i++) {
            rooms.add(new int[] {name.get(i), (int) Math.round(spot[i][0]), (int) Math.round(spot[i][1])});
            for (int j = 0; j < i; j++) {
                if (near[i][j]) {
                    boolean turned = random.nextBoolean();
                    joins.add(new int[] {name.get(turned ? i : j), name.get(turned ? j : i)});
                }
            }
        }
        Collections.shuffle(joins, random);
        Collections.shuffle(rooms, random);
        int last = cells - 1;
        corners = new int[] {name.get(owner[last][0]), name.get(owner[last][last]), name.get(owner[0][last]),
            name.get(owner[0][0])};
        return joins.size() <= 21 && pointsDiffer();
    }

    private int cover(int[][] owner) {
        int cells = owner.length;
        for (int[] row : owner) {
            java.util.Arrays.fill(row, -1);
        }
        int n = 0;
        for (int y = 0; y < cells; y++) {
            for (int x = 0; x < cells; x++) {
                if (owner[y][x] < 0) {
                    int w = 1 + random.nextInt(cells);
                    int h = 1 + random.nextInt(cells);
                    for (int v = y; v < cells && v < y + h; v++) {
                        for (int u = x; u < cells && u < x + w && owner[y][u] < 0 | owner[y][u] == n; u++) {
                            owner[v][u] = n;
                        }
                    }
                    n++;
                }
            }
        }
        return n;
    }

    /** The rooms at the board's edge, clockwise. */
    private static List<Integer> around(int[][] owner) {
        int last = owner.length - 1;
        List<Integer> edge = new ArrayList<>();
        for (int k = 0; k < last; k++) {
            edge.add(owner[last][k]);
        }
        for (int k = 0; k < last; k++) {
            edge.add(owner[last - k][last]);
        }
        for (int k = 0; k < last; k++) {
            edge.add(owner[0][last - k]);
        }
        for (int k = 0; k < last; k++) {
            edge.add(owner[k][0]);
        }
        List<Integer> turn = new ArrayList<>();
        for (int room : edge) {
            if (turn.isEmpty() || turn.get(turn.size() - 1) != room) {
                turn.add(room);
            }
        }
        if (turn.size() > 1 && turn.get(0).equals(turn.get(turn.size() - 1))) {
            turn.remove(turn.size() - 1);
        }
        return turn;
    }

    private static boolean[][] nearness(int[][] owner, int n) {
        boolean[][] near = new boolean[n][n];
        int cells = owner.length;
        for (int y = 0; y < cells; y++) {
            for (int x = 0; x < cells; x++) {
                if (x + 1 < cells) {
                    near[owner[y][x]][owner[y][x + 1]] = true;
                    near[owner[y][x + 1]][owner[y][x]] = true;
                }
                if (y + 1 < cells) {
                    near[owner[y][x]][owner[y + 1][x]] = true;
                    near[owner[y + 1][x]][owner[y][x]] = true;
                }
            }
        }
        for (int i = 0; i < n; i++) {
            near[i][i] = false;
        }
        return near;
    }

    /** The edge's rooms on a circle, each other room in the middle of those that it is joined with. */
    private double[][] spots(List<Integer> around, boolean[][] near, int n) {
        double[][] spot = new double[n][];
        double turned = random.nextDouble() * 2 * Math.PI;
        for (int k = 0; k < around.size(); k++) {
            double a = turned - 2 * Math.PI * k / around.size();
            spot[around.get(k)] = new double[] {15.5 + 15.4 * Math.cos(a), 15.5 + 15.4 * Math.sin(a)};
        }
        for (int i = 0; i < n; i++) {
            if (spot[i] == null) {
                spot[i] = new double[] {15.5, 15.5};
            }
        }
        for (int round = 0; round < 200; round++) {
            for (int i = 0; i < n; i++) {
                if (!around.contains(i)) {
                    double x = 0;
                    double y = 0;
                    int k = 0;
                    for (int j = 0; j < n; j++) {
                        if (near[i][j]) {
                            x += spot[j][0];
                            y += spot[j][1];
                            k++;
                        }
                    }
                    spot[i] = new double[] {x / k, y / k};
                }
            }
        }
        return spot;
    }

    private boolean pointsDiffer() {
        return rooms.stream().map(r -> r[1] * 32 + r[2]).distinct().count() == rooms.size();
    }

    private void placeRooms(int n, int grid) {
        for (int i = 0; i < n; i++) {
            int[] room;
            do {
                room = new int[] {i, random.nextInt(grid), random.nextInt(grid)};
            } while (isTaken(room));
            rooms.add(room);
        }
    }

    private boolean isTaken(int[] room) {
        for (int[] r : rooms) {
            if (r[1] == room[1] && r[2] == room[2]) {
                return true;
            }
        }
        return false;
    }

    private boolean isJoined(int i, int j) {
        for (int[] e : joins) {
            if (e[0] == i && e[1] == j || e[0] == j && e[1] == i) {
                return true;
            }
        }
        return false;
    }

    void draw(Model model) {
        for (int[] r : rooms) {
            model.room(r[0], r[1], r[2]);
        }
        for (int[] e : joins) {
            model.join(e[0], e[1]);
        }
    }

    /** Rooms of the outline in a row by chance, mostly in the order of the turn. */
    void pickCorners() {
        Model model = new Model();
        draw(model);
        int answer = model.plan();
        corners = new int[4];
        if (answer == 0 || answer == 2 || random.nextInt(20) == 0) {
            for (int k = 0; k < 4; k++) {
                corners[k] = rooms.get(random.nextInt(rooms.size()))[0];
            }
            return;
        }
        List<Integer> turn = model.outline();
        int n = turn.size();
        int start = random.nextInt(n);
        int[] step = {0, random.nextInt(n + 1), random.nextInt(n + 1), random.nextInt(n + 1)};
        java.util.Arrays.sort(step);
        for (int k = 0; k < 4; k++) {
            corners[k] = turn.get((start + step[k]) % n);
        }
    }
}
