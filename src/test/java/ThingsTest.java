/** Promises 2, 3 and 4: tank, pump and valve. */
final class ThingsTest {
    public static void main(String[] args) {
        tanks();
        valves();
        numbersAreOneRow();
        full();
        Check.end("ThingsTest");
    }

    private static void tanks() {
        PlantGraph x = new PlantGraph();
        long[] refused = {0, -1, 100001, Long.MIN_VALUE, Long.MAX_VALUE, 1L << 32, (1L << 32) + 5};
        for (long litres : refused) {
            Check.due("tank " + litres, x.tank(litres), Check.NONE);
        }
        Check.due("tank 1", x.tank(1), 0);
        Check.due("tank 100000", x.tank(100000), 1);
        Check.due("a tank is empty", x.fill(1, 1, 100000), true);
        Check.due("litres of the first", x.fill(0, 1, 2), false);
        Check.due("the text", Check.written(x), "tank 1\ntank 100000\n");
    }

    private static void valves() {
        PlantGraph x = new PlantGraph();
        int[] refused = {-1, 9, 10, 11, Integer.MIN_VALUE, Integer.MAX_VALUE};
        for (int kind : refused) {
            Check.due("valve " + kind, x.valve(kind), Check.NONE);
        }
        int[] ports = {2, 3, 3, 2, 4, 1, 4, 2, 2};
        for (int kind = 0; kind < 9; kind++) {
            Check.due("valve " + kind, x.valve(kind), kind);
            for (int n = 0; n < ports[kind]; n++) {
                Check.due("a port of kind " + kind, x.pipe(kind, -1, 1) >= 0, true);
            }
            Check.due("no more port of kind " + kind, x.pipe(kind, -1, 1), Check.NONE);
        }
    }

    private static void numbersAreOneRow() {
        PlantGraph x = new PlantGraph();
        Check.due("tank", x.tank(7), 0);
        Check.due("pump", x.pump(), 1);
        Check.due("refused", x.valve(9), Check.NONE);
        Check.due("valve", x.valve(8), 2);
        Check.due("pipes have numbers of their own", x.pipe(0, 1, 1), 0);
        Check.due("pump", x.pump(), 3);
        Check.due("the text", Check.written(x), "tank 7\npump\nvalve 8\npump\npipe 0 1 1\n");
    }

    private static void full() {
        PlantGraph x = new PlantGraph();
        for (int n = 0; n < 40; n++) {
            int got = n % 3 == 0 ? x.tank(1) : n % 3 == 1 ? x.pump() : x.valve(0);
            Check.due("thing " + n, got, n);
        }
        Check.due("tank", x.tank(1), Check.FULL);
        Check.due("pump", x.pump(), Check.FULL);
        Check.due("valve", x.valve(0), Check.FULL);
        Check.due("refused before it is full", x.tank(0), Check.NONE);
        Check.due("refused before it is full", x.valve(9), Check.NONE);
        Check.due("thing 39 is the last", Check.positionThrows(x, 40, 0), true);
    }
}
