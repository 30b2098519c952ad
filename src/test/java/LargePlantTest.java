import java.util.Random;

/**
 * Plants of up to 40 things and 60 pipes by chance, always the same ones, on the program and on the
 * model: few tanks and mostly open valves, so that ways are long and often equally long.
 */
final class LargePlantTest {
    private static final int RUNS = 600;
    private static final int PUMP = 9;
    private static final int TANK = 10;
    private static final int[][] KINDS = {{4}, {4, 2, 2, 7}, {7, 0, 3, 8, PUMP, 6, 6, 2}, {0, 1, 2, 3, 4, 5, 6, 7, 8, PUMP}};

    private final Random chance;
    private final PlantGraph x = new PlantGraph();
    private final Model model = new Model();
    private final String run;
    private final int[] kind;

    private LargePlantTest(int seed) {
        chance = new Random(seed);
        run = "run " + seed + ": ";
        kind = new int[10 + below(31)];
    }

    public static void main(String[] args) {
        for (int seed = 0; seed < RUNS; seed++) {
            new LargePlantTest(seed).calls();
        }
        Check.due("some ways are of ten pipes", Model.mostPipesInWay >= 10, true);
        Check.end("LargePlantTest");
    }

    private void calls() {
        addThings();
        addPipes();
        for (int thing = 0; thing < kind.length; thing++) {
            position(thing, openPosition(kind[thing]));
        }
        for (int n = 0; n < 60; n++) {
            bend();
        }
        for (int n = 0; n < 120; n++) {
            call();
        }
        Check.due(run + "the text", Check.written(x), model.written());
    }

    private int below(int n) {
        return chance.nextInt(n);
    }

    private void addThings() {
        int[] kinds = KINDS[below(KINDS.length)];
        for (int thing = 0; thing < kind.length; thing++) {
            kind[thing] = kinds[below(kinds.length)];
        }
        for (int tanks = 2 + below(4); tanks > 0; tanks--) {
            kind[below(kind.length)] = TANK;
        }
        for (int k : kind) {
            if (k == TANK) {
                int litres = 1 + below(below(2) == 0 ? 300 : 5000);
                Check.due(run + "tank", x.tank(litres), model.tank(litres));
            } else if (k == PUMP) {
                Check.due(run + "pump", x.pump(), model.pump());
            } else {
                Check.due(run + "valve", x.valve(k), model.valve(k));
            }
        }
    }

    /** Most pipes are between things whose numbers are near: chains of pipes come of it. */
    private void addPipes() {
        int near = 1 + below(6);
        int most = 15 + below(50);
        for (int n = 0; n < 150 && model.pipeCount() < most; n++) {
            int a = below(kind.length);
            int b = below(4) == 0 ? below(kind.length) : Math.floorMod(a + below(2 * near + 1) - near, kind.length);
            if (kind[a] == TANK && kind[b] == TANK && below(10) > 0) {
                continue;
            }
            a = below(8) == 0 ? -1 : a;
            b = below(8) == 0 ? -1 : b;
            int litres = 1 + below(below(6) == 0 ? 200 : 5);
            Check.due(run + "pipe " + a + " " + b + " " + litres, x.pipe(a, b, litres), model.pipe(a, b, litres));
        }
    }

    private int openPosition(int k) {
        if (below(5) == 0) {
            return below(4);
        }
        return k == 2 ? 0 : k == 1 || k == 6 ? below(2) : 1;
    }

    private void position(int thing, int p) {
        Check.due(run + "position " + thing + " " + p, x.position(thing, p) ? 1 : 0, model.position(thing, p));
    }

    private void bend() {
        int a = below(60);
        int b = below(60);
        Check.due(run + "bend " + a + " " + b, x.bend(a, b), model.bend(a, b));
    }

    private int tank() {
        int thing = below(kind.length);
        while (kind[thing] != TANK) {
            thing = (thing + 1) % kind.length;
        }
        return thing;
    }

    private void call() {
        int a = tank();
        int b = tank();
        switch (below(6)) {
            case 0:
                int liquid = 1 + below(14);
                int litres = 1 + below(200);
                Check.due(run + "fill " + a, x.fill(a, liquid, litres), model.fill(a, liquid, litres));
                break;
            case 1:
                int k = below(5);
                Check.due(run + "joined " + a + " " + k, x.joined(a, k), model.joined(a, k));
                break;
            case 2:
                position(below(kind.length), below(4));
                break;
            case 3:
                bend();
                break;
            default:
                move(a, b, 1 + below(below(8) == 0 ? 100000 : 60));
                break;
        }
    }

    private void move(int a, int b, int litres) {
        Check.due(run + "move " + a + " " + b + " " + litres, x.move(a, b, litres), model.move(a, b, litres));
        for (int pipe = 0; pipe <= model.pipeCount(); pipe++) {
            Check.due(run + "content " + pipe, x.content(pipe), model.content(pipe));
        }
    }
}
