import java.util.function.IntSupplier;

/** Makes the same calls on the program and on the model, and tells where they differ. */
final class Pair {
    final HouseDesk desk = new HouseDesk();
    final Model model = new Model();
    private final String name;
    private final StringBuilder calls = new StringBuilder();
    private int differing;

    Pair(String test) {
        name = test;
    }

    int differing() {
        return differing;
    }

    /** The answer of a call, or the name of what it throws. */
    static String answer(IntSupplier call) {
        try {
            return Integer.toString(call.getAsInt());
        } catch (RuntimeException e) {
            return e.getClass().getSimpleName();
        }
    }

    private String same(String call, IntSupplier program, IntSupplier wanted) {
        String got = answer(program);
        String due = answer(wanted);
        calls.append(call).append(" = ").append(got).append("; ");
        if (!got.equals(due)) {
            differing++;
            if (differing == 1) {
                System.out.println(name + ": " + call + " answered " + got + ", due is " + due + " behind: " + calls);
            }
        }
        return got;
    }

    private static IntSupplier quiet(Runnable call) {
        return () -> {
            call.run();
            return 0;
        };
    }

    void room(int i, int x, int y) {
        same("room(" + i + ", " + x + ", " + y + ")", quiet(() -> desk.room(i, x, y)), quiet(() -> model.room(i, x, y)));
    }

    void join(int i, int j) {
        same("join(" + i + ", " + j + ")", () -> desk.join(i, j), () -> model.join(i, j));
    }

    void corners(int a, int b, int c, int d) {
        same("corners(" + a + ", " + b + ", " + c + ", " + d + ")", quiet(() -> desk.corners(a, b, c, d)),
            quiet(() -> model.corners(a, b, c, d)));
    }

    void least(int i, int w, int h) {
        same("least(" + i + ", " + w + ", " + h + ")", quiet(() -> desk.least(i, w, h)), quiet(() -> model.least(i, w, h)));
    }

    void wall(int join, int length) {
        same("wall(" + join + ", " + length + ")", quiet(() -> desk.wall(join, length)), quiet(() -> model.wall(join, length)));
    }

    void clear() {
        same("clear()", quiet(desk::clear), quiet(model::clear));
    }

    String plan() {
        return same("plan()", desk::plan, model::plan);
    }

    void witness(int k) {
        same("witness(" + k + ")", () -> desk.witness(k), () -> model.witness(k));
    }

    void rect(int i, int part) {
        same("rect(" + i + ", " + part + ")", () -> desk.rect(i, part), () -> model.rect(i, part));
    }

    void house(int part) {
        same("house(" + part + ")", () -> desk.house(part), () -> model.house(part));
    }

    void wallOf(int join, int part) {
        same("wallOf(" + join + ", " + part + ")", () -> desk.wallOf(join, part), () -> model.wallOf(join, part));
    }

    void side(int i, int side) {
        same("side(" + i + ", " + side + ")", () -> desk.side(i, side), () -> model.side(i, side));
    }

    void way(int i, int j) {
        same("way(" + i + ", " + j + ")", () -> desk.way(i, j), () -> model.way(i, j));
    }

    void wayRoom(int k) {
        same("wayRoom(" + k + ")", () -> desk.wayRoom(k), () -> model.wayRoom(k));
    }

    void count(int what) {
        same("count(" + what + ")", () -> desk.count(what), () -> model.count(what));
    }

    /** Asks for everything that can be asked for, and a little beyond. */
    void askAll() {
        for (int k = -1; k < 5; k++) {
            witness(k);
            count(k);
            house(k);
        }
        count(5);
        for (int i = -1; i < 10; i++) {
            for (int part = -1; part < 5; part++) {
                rect(i, part);
                side(i, part);
            }
        }
        for (int e = -1; e < 22; e++) {
            for (int part = -1; part < 4; part++) {
                wallOf(e, part);
            }
        }
    }

    void askWays() {
        for (int i = -1; i < 10; i++) {
            for (int j = -1; j < 10; j++) {
                way(i, j);
                for (int k = -1; k < 10; k++) {
                    wayRoom(k);
                }
            }
        }
    }
}
