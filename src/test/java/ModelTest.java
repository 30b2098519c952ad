import java.util.Random;

/** Runs of calls by chance, always the same ones, on the program and on the model. */
final class ModelTest {
    private static final int RUNS = 3000;
    private static final String[] BITS = {"tank ", "pump\n", "valve ", "pipe ", "- ", "0 ", "1 ", "2\n", "5\n", "10\n", "0\n",
        "9", "tank 7\n", "valve 4\n", "valve 2\n", "pipe 0 1 2\n", "pipe 1 0 3\n", "pipe - 0 2\n", "pump \n", "\n", " ", "x"};

    private final Random chance;
    private final PlantGraph x = new PlantGraph();
    private final Model model = new Model();
    private final String run;
    private final int maxThings;
    private final int maxPipes;

    private ModelTest(int seed) {
        chance = new Random(seed);
        run = "run " + seed + ": ";
        maxThings = 3 + chance.nextInt(9);
        maxPipes = 2 + chance.nextInt(15);
    }

    public static void main(String[] args) {
        for (int seed = 0; seed < RUNS; seed++) {
            new ModelTest(seed).calls();
        }
        Check.end("ModelTest");
    }

    private void calls() {
        for (int n = 0; n < 25; n++) {
            build();
        }
        for (int n = 0; n < 200; n++) {
            call();
        }
        Check.due(run + "the text", Check.written(x), model.written());
    }

    private int below(int n) {
        return chance.nextInt(n);
    }

    private int thing() {
        return below(20) == 0 ? below(45) - 2 : below(Math.max(1, model.thingCount()));
    }

    private int pipe() {
        return below(20) == 0 ? below(65) - 2 : below(Math.max(1, model.pipeCount()));
    }

    private void build() {
        if (model.thingCount() < maxThings && below(2) == 0) {
            addThing();
        } else if (model.pipeCount() < maxPipes) {
            int a = below(6) == 0 ? -1 : thing();
            int b = below(6) == 0 ? -1 : thing();
            int litres = below(10) == 0 ? below(5) * 100 - 100 : 1 + below(4);
            Check.due(run + "pipe " + a + " " + b + " " + litres, x.pipe(a, b, litres), model.pipe(a, b, litres));
        }
    }

    private void addThing() {
        switch (below(5)) {
            case 0:
            case 1:
                int litres = below(20) - (below(10) == 0 ? 5 : -1);
                Check.due(run + "tank " + litres, x.tank(litres), model.tank(litres));
                break;
            case 2:
                Check.due(run + "pump", x.pump(), model.pump());
                break;
            default:
                int kind = below(20) == 0 ? below(14) - 2 : new int[] {0, 1, 2, 2, 3, 4, 4, 4, 5, 6, 6, 7, 8}[below(13)];
                Check.due(run + "valve " + kind, x.valve(kind), model.valve(kind));
                break;
        }
    }

    private void call() {
        int a = thing();
        int b = thing();
        int p = below(3) == 0 ? below(14) - 2 : below(2);
        switch (below(14)) {
            case 0:
                build();
                break;
            case 1:
            case 2:
                bend(pipe(), pipe());
                break;
            case 3:
            case 4:
                position(a, p);
                break;
            case 5:
                Check.due(run + "sensor " + a + " " + p, x.sensor(a, p), model.sensor(a, p));
                Check.due(run + "unsure " + a, x.unsure(a), model.unsure(a));
                break;
            case 6:
            case 7:
                int liquid = below(20) - (below(4) == 0 ? 3 : -1);
                int litres = below(12) - (below(9) == 0 ? 3 : -1);
                Check.due(run + "fill " + a, x.fill(a, liquid, litres), model.fill(a, liquid, litres));
                break;
            case 8:
            case 9:
            case 10:
            case 11:
                move(a, b, below(9) == 0 ? below(200000) - 50000 : 1 + below(8));
                break;
            case 12:
                joined(a, below(7) - 1);
                break;
            default:
                if (below(8) == 0) {
                    text();
                }
                int i = below(300) - 2;
                Check.due(run + "write " + i, x.write(i), model.write(i));
                break;
        }
    }

    private void bend(int a, int b) {
        Check.due(run + "bend " + a + " " + b, x.bend(a, b), model.bend(a, b));
    }

    private void position(int a, int p) {
        int got;
        try {
            got = x.position(a, p) ? 1 : 0;
        } catch (IndexOutOfBoundsException e) {
            got = -1;
        }
        Check.due(run + "position " + a + " " + p, got, model.position(a, p));
    }

    private void move(int a, int b, int litres) {
        Check.due(run + "move " + a + " " + b + " " + litres, x.move(a, b, litres), model.move(a, b, litres));
        for (int n = 0; n <= model.pipeCount(); n++) {
            Check.due(run + "content " + n, x.content(n), model.content(n));
        }
    }

    private void joined(int a, int k) {
        Check.due(run + "joined " + a + " " + k, x.joined(a, k), model.joined(a, k));
    }

    private void text() {
        int bits = below(6);
        StringBuilder text = new StringBuilder(below(2) == 0 ? model.written() : "");
        for (int n = 0; n < bits; n++) {
            text.append(BITS[below(BITS.length)]);
        }
        for (int i = 0; i < text.length(); i++) {
            Check.due(run + "unit", x.unit(text.charAt(i)), model.unit(text.charAt(i)));
        }
        Check.due(run + "read '" + text + "'", x.read(), model.read());
    }
}
