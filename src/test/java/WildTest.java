import java.util.Random;

/** Wild arguments in any order: nothing is thrown but by position, for a thing that is none. */
final class WildTest {
    private static final long[] EDGES = {Long.MIN_VALUE, Integer.MIN_VALUE, -1000000, -3, -2, -1, 0, 1, 2, 3, 5, 8, 9, 10, 14, 15, 39,
        40, 59, 60, 119, 120, 127, 128, 199, 200, 201, 1999, 2000, 100000, 100001, 1 << 30, Integer.MAX_VALUE, 1L << 32, Long.MAX_VALUE};
    private static final String[] BITS = {"tank ", "tank 100000\n", "pump\n", "valve ", "valve 2\n", "pipe ", "pipe - - 200\n",
        "pipe 0 1 200\n", "-", "0", "9", "\n", " ", "1234567"};

    private static Random chance;

    public static void main(String[] args) {
        for (int seed = 0; seed < 300; seed++) {
            chance = new Random(seed);
            PlantGraph x = new PlantGraph();
            try {
                for (int n = 0; n < 3000; n++) {
                    call(x);
                }
            } catch (RuntimeException e) {
                Check.due("run " + seed + " throws " + e, true, false);
            }
        }
        Check.end("WildTest");
    }

    private static long any() {
        return chance.nextInt(3) == 0 ? EDGES[chance.nextInt(EDGES.length)] : chance.nextInt(50) - 1;
    }

    private static int anyInt() {
        return (int) any();
    }

    private static void call(PlantGraph x) {
        switch (chance.nextInt(16)) {
            case 0: x.tank(any()); break;
            case 1: x.pump(); break;
            case 2: x.valve(anyInt()); break;
            case 3: x.pipe(anyInt(), anyInt(), any()); break;
            case 4: x.bend(anyInt(), anyInt()); break;
            case 5: position(x, anyInt(), anyInt()); break;
            case 6: x.sensor(anyInt(), anyInt()); break;
            case 7: x.unsure(anyInt()); break;
            case 8: x.content(anyInt()); break;
            case 9: x.fill(anyInt(), anyInt(), any()); break;
            case 10: x.move(anyInt(), anyInt(), any()); break;
            case 11: x.joined(anyInt(), anyInt()); break;
            case 12: x.unit(anyInt()); break;
            case 13: bits(x); break;
            case 14: if (chance.nextInt(9) == 0) { x.read(); } break;
            default: x.write(anyInt()); break;
        }
    }

    private static void position(PlantGraph x, int thing, int p) {
        boolean throwsIt = Check.positionThrows(x, thing, p);
        Check.due("position of thing " + thing + " throws", throwsIt && !isNone(thing, x), false);
    }

    /** There are as many things as lines of the text that are no pipe's. */
    private static boolean isNone(int thing, PlantGraph x) {
        int things = 0;
        for (String line : Check.written(x).split("\n")) {
            things += line.isEmpty() || line.startsWith("pipe") ? 0 : 1;
        }
        return thing < 0 || thing >= things;
    }

    private static void bits(PlantGraph x) {
        if (chance.nextInt(4) == 0) {
            x.read();
        }
        String bit = BITS[chance.nextInt(BITS.length)];
        for (int i = 0; i < bit.length(); i++) {
            x.unit(bit.charAt(i));
        }
    }
}
