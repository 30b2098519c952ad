/** Promises 7, 8 and 9: position, sensor and unsure. */
final class PositionTest {
    private static final int[] NO_POSITIONS = {-1, 10, Integer.MIN_VALUE, Integer.MAX_VALUE};
    private static final int[] NO_THINGS = {3, -1, -2, 39, 40, Integer.MIN_VALUE, Integer.MAX_VALUE};

    public static void main(String[] args) {
        positions();
        sensors();
        Check.end("PositionTest");
    }

    private static void positions() {
        PlantGraph x = Check.plantOf("tank 5\npump\nvalve 5\n");
        for (int p = 0; p <= 9; p++) {
            Check.due("position " + p, x.position(2, p), true);
            Check.due("of a tank", x.position(0, p), false);
            Check.due("of a pump", x.position(1, p), false);
        }
        for (int p : NO_POSITIONS) {
            Check.due("position " + p, x.position(2, p), false);
        }
        for (int thing : NO_THINGS) {
            Check.due("thing " + thing + " throws", Check.positionThrows(x, thing, 0), true);
            Check.due("thing " + thing + " throws before that", Check.positionThrows(x, thing, 10), true);
        }
        Check.due("sensor", x.sensor(2, 9), true);
        Check.due("a refused position changes nothing", x.unsure(2), false);
    }

    private static void sensors() {
        PlantGraph x = Check.plantOf("tank 5\npump\nvalve 0\n");
        Check.due("it has told nothing", x.unsure(2), false);
        x.position(2, 4);
        Check.due("it has told nothing", x.unsure(2), false);
        for (int p = 0; p <= 9; p++) {
            Check.due("sensor " + p, x.sensor(2, p), true);
            Check.due("unsure " + p, x.unsure(2), p != 4);
            Check.due("of a tank", x.sensor(0, p), false);
            Check.due("of a pump", x.sensor(1, p), false);
        }
        for (int p : NO_POSITIONS) {
            Check.due("sensor " + p, x.sensor(2, p), false);
        }
        x.position(2, 9);
        Check.due("a refused sensor changes nothing", x.unsure(2), false);
        for (int thing : NO_THINGS) {
            Check.due("sensor of thing " + thing, x.sensor(thing, 0), false);
            Check.due("unsure of thing " + thing, x.unsure(thing), false);
        }
        Check.due("unsure of a tank", x.unsure(0), false);
        Check.due("unsure of a pump", x.unsure(1), false);

        PlantGraph y = Check.plantOf("valve 0\ntank 5\ntank 5\npipe 1 0 1\npipe 0 2 1\n");
        Check.due("what the sensor tells", y.sensor(0, 1), true);
        Check.due("is not the position", Check.tanksFrom(y, 1), "");
        Check.due("but it is unsure", y.unsure(0), true);
        Check.due("0 is told too", y.sensor(0, 0), true);
        Check.due("position", y.position(0, 1), true);
        Check.due("unsure", y.unsure(0), true);
    }
}
