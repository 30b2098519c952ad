/** Promise 4: valve. */
final class Promise04ValveTest {
    private static final String SECTION = "Promise 4: valve";

    public static void main(String[] args) {
        itsNumber();
        anotherKind();
        full();
        Check.end("Promise04ValveTest");
    }

    private static void itsNumber() {
        Check.sentence(SECTION, "A valve of a kind: its number.");
        PlantGraph x = new PlantGraph();
        for (int kind = 0; kind <= 8; kind++) {
            Check.due("valve " + kind, x.valve(kind), kind);
            Check.due("it is a valve", x.sensor(kind, 0), true);
        }
        Check.due("the text", Check.written(x), "valve 0\nvalve 1\nvalve 2\nvalve 3\nvalve 4\nvalve 5\nvalve 6\nvalve 7\nvalve 8\n");
        PlantGraph y = Check.plantOf("pump\ntank 1\n");
        Check.due("things are numbered together", y.valve(8), 2);
    }

    private static void anotherKind() {
        Check.sentence(SECTION, "NONE, refused, for another kind");
        PlantGraph x = new PlantGraph();
        for (int kind : Check.outside(0, 8)) {
            Check.due("valve " + kind, x.valve(kind), Check.NONE);
            Check.due("nothing came", x.write(0), Check.NONE);
        }
        Check.due("the least", x.valve(0), 0);
        Check.due("one less", x.valve(-1), Check.NONE);
        Check.due("the most", x.valve(8), 1);
        Check.due("one more", x.valve(9), Check.NONE);
        Check.due("refused ones took no number", x.valve(5), 2);
    }

    private static void full() {
        Check.sentence(SECTION, "FULL.");
        PlantGraph x = new PlantGraph();
        for (int n = 0; n < 40; n++) {
            Check.due("valve " + n, x.valve(n % 9), n);
        }
        String before = Check.written(x);
        for (int kind = 0; kind <= 8; kind++) {
            Check.due("the 41st", x.valve(kind), Check.FULL);
        }
        for (int kind : Check.outside(0, 8)) {
            Check.due("refused in a full plant, too", x.valve(kind), Check.NONE);
        }
        Check.due("nothing came", Check.written(x), before);
        Check.due("the last one is 39", x.sensor(39, 0), true);
        Check.due("there is no 40", x.sensor(40, 0), false);
    }
}
