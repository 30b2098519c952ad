/** Promise 8: sensor. */
final class Promise08SensorTest {
    private static final String SECTION = "Promise 8: sensor";
    private static final String TEXT = "tank 5\npump\nvalve 0\n";

    public static void main(String[] args) {
        whatItTells();
        noValve();
        anotherPosition();
        Check.end("Promise08SensorTest");
    }

    private static void whatItTells() {
        Check.sentence(SECTION, "What a valve's sensor tells (0 .. 9): true.");
        PlantGraph x = Check.plantOf(TEXT);
        for (int p = 0; p <= 9; p++) {
            Check.due("sensor " + p, x.sensor(2, p), true);
            Check.due("the same once more", x.sensor(2, p), true);
        }
        PlantGraph y = Check.plantOf("valve 0\ntank 5\ntank 5\npipe 1 0 1\npipe 0 2 1\n");
        y.sensor(0, 1);
        Check.due("what a sensor tells moves no valve", Check.tanksFrom(y, 1), "");
    }

    private static void noValve() {
        Check.sentence(SECTION, "False, refused, when it is no valve");
        PlantGraph x = Check.plantOf(TEXT);
        for (int p = 0; p <= 9; p++) {
            Check.due("of a tank", x.sensor(0, p), false);
            Check.due("of a pump", x.sensor(1, p), false);
        }
        for (int thing : Check.outside(0, 2)) {
            Check.due("of thing " + thing, x.sensor(thing, 0), false);
            Check.due("of thing " + thing + ", another position", x.sensor(thing, 10), false);
        }
        PlantGraph full = Check.plantOf("valve 0\n".repeat(40));
        Check.due("of thing 39", full.sensor(39, 0), true);
        Check.due("of thing 40", full.sensor(40, 0), false);
    }

    private static void anotherPosition() {
        Check.sentence(SECTION, "or for another position.");
        PlantGraph x = Check.plantOf(TEXT);
        for (int p : Check.outside(0, 9)) {
            Check.due("sensor " + p, x.sensor(2, p), false);
            Check.due("it has told nothing", x.unsure(2), false);
        }
        x.position(2, 9);
        x.sensor(2, 9);
        for (int p : Check.outside(0, 9)) {
            Check.due("sensor " + p, x.sensor(2, p), false);
            Check.due("what it told stays", x.unsure(2), false);
        }
    }
}
