import java.util.Random;

/** Sketches by chance, and runs of calls by chance, on the program and on the model. */
public final class ModelTest {
    private static int differing = 0;
    private static final int[] answers = new int[6];

    public static void main(String[] args) {
        int seeds = args.length > 0 ? Integer.parseInt(args[0]) : 4000;
        int first = args.length > 1 ? Integer.parseInt(args[1]) : 0;
        for (int seed = first; seed < first + seeds; seed++) {
            Pair pair = new Pair("seed " + seed);
            Random random = new Random(seed);
            switch (seed % 4) {
                case 0:
                case 1:
                    planSketch(pair, random, seed % 4 == 0);
                    break;
                case 2:
                    planSketch(pair, random, false);
                    changeSketch(pair, random);
                    break;
                default:
                    callAnything(pair, random);
                    break;
            }
            differing += pair.differing();
        }
        StringBuilder told = new StringBuilder();
        for (int k = 0; k < 6; k++) {
            told.append(' ').append(k).append(": ").append(answers[k]);
            if (answers[k] < seeds / 100) {
                System.out.println("too few plans answered " + k);
                differing++;
            }
        }
        System.out.println("plans by answer:" + told + "; " + differing + " answers differ");
        if (differing != 0) {
            System.exit(1);
        }
    }

    private static Sketches someSketch(Random random, boolean tiled) {
        Sketches s = new Sketches(random);
        if (tiled) {
            for (int k = 0; k < 50; k++) {
                s = new Sketches(random);
                if (s.tile(3 + random.nextInt(4))) {
                    return s;
                }
            }
            s = new Sketches(random);
        }
        int n = 1 + random.nextInt(9);
        int grid = random.nextInt(3) == 0 ? 4 : 32;
        if (random.nextInt(4) == 0) {
            s.scatter(n, random.nextInt(2 * n), grid);
        } else {
            s.fill(n, grid, Math.max(0, random.nextInt(6) - 2));
        }
        return s;
    }

    private static void planSketch(Pair pair, Random random, boolean tiled) {
        Sketches s = someSketch(random, tiled);
        if (s.corners == null || random.nextInt(3) == 0) {
            s.pickCorners();
        }
        for (int[] r : s.rooms) {
            pair.room(r[0], r[1], r[2]);
        }
        for (int[] e : s.joins) {
            pair.join(e[0], e[1]);
        }
        if (random.nextInt(20) != 0) {
            pair.corners(s.corners[0], s.corners[1], s.corners[2], s.corners[3]);
        }
        plan(pair);
        for (int k = random.nextInt(12); k > 0; k--) {
            pair.least(random.nextInt(9), 1 + random.nextInt(50), 1 + random.nextInt(50));
            pair.wall(random.nextInt(21), 1 + random.nextInt(20));
        }
        pair.count(4);
        plan(pair);
        if (random.nextInt(8) == 0) {
            pair.askWays();
        }
    }

    private static void plan(Pair pair) {
        String answer = pair.plan();
        answers[answer.charAt(0) - '0']++;
        pair.askAll();
    }

    private static void changeSketch(Pair pair, Random random) {
        for (int k = 0; k < 10; k++) {
            switch (random.nextInt(6)) {
                case 0:
                    pair.room(random.nextInt(9), random.nextInt(32), random.nextInt(32));
                    break;
                case 1:
                    pair.clear();
                    pair.askAll();
                    planSketch(pair, random, true);
                    break;
                case 2:
                    pair.corners(random.nextInt(9), random.nextInt(9), random.nextInt(9), random.nextInt(9));
                    break;
                case 3:
                    pair.least(random.nextInt(9), random.nextInt(52), random.nextInt(52));
                    break;
                default:
                    pair.join(random.nextInt(9), random.nextInt(9));
                    break;
            }
            plan(pair);
        }
    }

    private static void callAnything(Pair pair, Random random) {
        for (int k = 0; k < 300; k++) {
            int i = random.nextInt(12) - 1;
            int j = random.nextInt(12) - 1;
            int[] odd = {Integer.MIN_VALUE, -1, 0, 1, 20, 21, 31, 32, 50, 51, Integer.MAX_VALUE};
            int m = odd[random.nextInt(odd.length)];
            int n = odd[random.nextInt(odd.length)];
            switch (random.nextInt(16)) {
                case 0: pair.room(i, random.nextInt(34) - 1, random.nextInt(34) - 1); break;
                case 1: pair.join(i, j); break;
                case 2: pair.corners(i, j, random.nextInt(9), random.nextInt(9)); break;
                case 3: pair.least(i, m, n); break;
                case 4: pair.wall(i, m); break;
                case 5: if (random.nextInt(20) == 0) { pair.clear(); } break;
                case 6: pair.plan(); break;
                case 7: pair.witness(random.nextInt(5) - 1); break;
                case 8: pair.rect(i, j); break;
                case 9: pair.house(i); break;
                case 10: pair.wallOf(i, j); break;
                case 11: pair.side(i, j); break;
                case 12: pair.way(i, j); break;
                case 13: pair.wayRoom(i); break;
                case 14: pair.count(i); break;
                default: pair.room(m, n, n); pair.join(m, n); pair.rect(m, n); pair.wayRoom(m); pair.count(n); break;
            }
        }
    }
}
