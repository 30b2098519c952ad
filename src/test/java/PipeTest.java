/** Promise 5: pipe. */
final class PipeTest {
    public static void main(String[] args) {
        refusals();
        portsLeft();
        manyAtATank();
        full();
        Check.end("PipeTest");
    }

    private static void refusals() {
        PlantGraph x = new PlantGraph();
        x.tank(5);
        x.pump();
        long[] litres = {0, -1, 201, Long.MIN_VALUE, Long.MAX_VALUE, 1L << 32, (1L << 32) + 5};
        for (long l : litres) {
            Check.due("litres " + l, x.pipe(0, 1, l), Check.NONE);
        }
        int[] ends = {2, -2, 40, Integer.MAX_VALUE, Integer.MIN_VALUE};
        for (int end : ends) {
            Check.due("A at " + end, x.pipe(end, 0, 1), Check.NONE);
            Check.due("B at " + end, x.pipe(0, end, 1), Check.NONE);
        }
        Check.due("1 litre", x.pipe(0, 1, 1), 0);
        Check.due("200 litres", x.pipe(-1, -1, 200), 1);
        Check.due("a free A", x.pipe(-1, 1, 3), 2);
        Check.due("the text", Check.written(x), "tank 5\npump\npipe 0 1 1\npipe - - 200\npipe - 1 3\n");
    }

    private static void portsLeft() {
        PlantGraph x = new PlantGraph();
        x.pump();
        x.valve(5);
        x.valve(1);
        Check.due("both ends at a valve of one port", x.pipe(1, 1, 1), Check.NONE);
        Check.due("a refused pipe takes no port", x.pipe(1, -1, 1), 0);
        Check.due("both ends at a pump", x.pipe(0, 0, 1), 1);
        Check.due("no port at A", x.pipe(0, 2, 1), Check.NONE);
        Check.due("no port at B", x.pipe(2, 0, 1), Check.NONE);
        Check.due("one of three", x.pipe(2, -1, 1), 2);
        Check.due("two of three", x.pipe(-1, 2, 1), 3);
        Check.due("one is left, two are asked", x.pipe(2, 2, 1), Check.NONE);
        Check.due("three of three", x.pipe(2, -1, 1), 4);
    }

    private static void manyAtATank() {
        PlantGraph x = new PlantGraph();
        x.tank(5);
        for (int n = 0; n < 60; n++) {
            Check.due("pipe " + n, x.pipe(0, 0, 1), n);
        }
        Check.due("a way never comes to its own tank", x.joined(0, 0), Check.NONE);
    }

    private static void full() {
        PlantGraph x = new PlantGraph();
        x.valve(5);
        x.pipe(0, -1, 1);
        for (int n = 1; n < 60; n++) {
            Check.due("pipe " + n, x.pipe(-1, -1, 200), n);
        }
        Check.due("full", x.pipe(-1, -1, 1), Check.FULL);
        Check.due("litres are refused before it is full", x.pipe(-1, -1, 0), Check.NONE);
        Check.due("ends are refused before it is full", x.pipe(1, -1, 1), Check.NONE);
        Check.due("ports are refused before it is full", x.pipe(0, -1, 1), Check.NONE);
        Check.due("pipe 59 is the last", x.content(59), 0);
        Check.due("there is no pipe 60", x.content(60), Check.NONE);
    }
}
