/** Promise 5: pipe. */
final class Promise05PipeTest {
    private static final String SECTION = "Promise 5: pipe";

    public static void main(String[] args) {
        itsNumber();
        noThing();
        otherLitres();
        noPortLeft();
        full();
        Check.end("Promise05PipeTest");
    }

    private static void itsNumber() {
        Check.sentence(SECTION, "A pipe with its ends A and B: its number.");
        PlantGraph x = Check.plantOf("tank 5\npump\n");
        Check.due("both ends at things", x.pipe(0, 1, 3), 0);
        Check.due("a free B", x.pipe(0, -1, 4), 1);
        Check.due("a free A", x.pipe(-1, 1, 5), 2);
        Check.due("two free ends", x.pipe(-1, -1, 6), 3);
        Check.due("both ends at one thing", x.pipe(0, 0, 7), 4);
        Check.due("the text", Check.written(x),
                "tank 5\npump\npipe 0 1 3\npipe 0 - 4\npipe - 1 5\npipe - - 6\npipe 0 0 7\n");
        Check.due("numbers of things are others", x.tank(1), 2);
    }

    private static void noThing() {
        Check.sentence(SECTION, "NONE, refused, when an end is no thing and not NONE");
        PlantGraph empty = new PlantGraph();
        Check.due("there is no thing 0 at all", empty.pipe(0, -1, 1), Check.NONE);
        PlantGraph x = Check.plantOf("tank 5\ntank 5\ntank 5\n");
        int[] ends = {3, 4, 39, 40, -2, -3, Integer.MIN_VALUE, Integer.MAX_VALUE, 1 << 30};
        for (int end : ends) {
            Check.due("A at " + end, x.pipe(end, 0, 1), Check.NONE);
            Check.due("B at " + end, x.pipe(0, end, 1), Check.NONE);
            Check.due("both at " + end, x.pipe(end, end, 1), Check.NONE);
            Check.due("A at " + end + ", a free B", x.pipe(end, -1, 1), Check.NONE);
        }
        Check.due("the first thing and the last", x.pipe(0, 2, 1), 0);
        Check.due("the last and NONE", x.pipe(2, -1, 1), 1);
        x.pump();
        Check.due("now there is a thing 3", x.pipe(3, 3, 1), 2);
        Check.due("but no thing 4", x.pipe(4, -1, 1), Check.NONE);
    }

    private static void otherLitres() {
        Check.sentence(SECTION, "litres are not 1 to 200");
        PlantGraph x = Check.plantOf("tank 5\npump\n");
        for (long litres : Check.outside(1L, 200L)) {
            Check.due("litres " + litres, x.pipe(0, 1, litres), Check.NONE);
            Check.due("litres " + litres + ", free ends", x.pipe(-1, -1, litres), Check.NONE);
        }
        Check.due("1", x.pipe(-1, -1, 1), 0);
        Check.due("2", x.pipe(-1, -1, 2), 1);
        Check.due("199", x.pipe(-1, -1, 199), 2);
        Check.due("200", x.pipe(-1, -1, 200), 3);
        Check.due("refused ones took no port", x.pipe(1, 1, 1), 4);
        Check.due("the text", Check.written(x),
                "tank 5\npump\npipe - - 1\npipe - - 2\npipe - - 199\npipe - - 200\npipe 1 1 1\n");
    }

    private static void noPortLeft() {
        Check.sentence(SECTION, "or a thing has no port left for it");
        PlantGraph x = Check.plantOf("pump\nvalve 5\nvalve 1\ntank 1\n");
        Check.due("two ends, one port", x.pipe(1, 1, 1), Check.NONE);
        Check.due("one end, one port", x.pipe(1, 3, 1), 0);
        Check.due("one end, no port", x.pipe(1, 3, 1), Check.NONE);
        Check.due("two ends, two ports", x.pipe(0, 0, 1), 1);
        Check.due("no port at A", x.pipe(0, 2, 1), Check.NONE);
        Check.due("no port at B", x.pipe(2, 0, 1), Check.NONE);
        Check.due("no port at A, a free B", x.pipe(0, -1, 1), Check.NONE);
        Check.due("a free A, no port at B", x.pipe(-1, 0, 1), Check.NONE);
        Check.due("refused ones took no port: one of three", x.pipe(2, -1, 1), 2);
        Check.due("two of three", x.pipe(-1, 2, 1), 3);
        Check.due("two ends, one port of three left", x.pipe(2, 2, 1), Check.NONE);
        Check.due("three of three", x.pipe(2, -1, 1), 4);
        Check.due("four of three", x.pipe(2, -1, 1), Check.NONE);
    }

    private static void full() {
        Check.sentence(SECTION, "FULL.");
        PlantGraph x = Check.plantOf("valve 5\npipe 0 - 1\n");
        for (int n = 1; n < 60; n++) {
            Check.due("pipe " + n, x.pipe(-1, -1, 200), n);
        }
        String before = Check.written(x);
        Check.due("the 61st", x.pipe(-1, -1, 1), Check.FULL);
        Check.due("once more", x.pipe(-1, -1, 200), Check.FULL);
        Check.due("litres are refused in a full plant, too", x.pipe(-1, -1, 0), Check.NONE);
        Check.due("litres are refused in a full plant, too", x.pipe(-1, -1, 201), Check.NONE);
        Check.due("ends are refused in a full plant, too", x.pipe(1, -1, 1), Check.NONE);
        Check.due("ports are refused in a full plant, too", x.pipe(0, -1, 1), Check.NONE);
        Check.due("nothing came", Check.written(x), before);
        Check.due("the last one is 59", x.content(59), 0);
        Check.due("there is no 60", x.content(60), Check.NONE);

        Check.due("a pump", x.pump(), 1);
        Check.due("full", x.pipe(1, -1, 1), Check.FULL);
        Check.due("full, a pipe that is not put in takes no port", x.pipe(1, 1, 1), Check.FULL);
    }
}
