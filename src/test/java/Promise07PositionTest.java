/** Promise 7: position. */
final class Promise07PositionTest {
    private static final String SECTION = "Promise 7: position";
    private static final String TEXT = "tank 5\npump\nvalve 5\n";

    public static void main(String[] args) {
        ofAValve();
        anotherPosition();
        noValve();
        noThing();
        Check.end("Promise07PositionTest");
    }

    private static void ofAValve() {
        Check.sentence(SECTION, "A valve's position (0 .. 9): true.");
        PlantGraph x = Check.plantOf(TEXT);
        for (int p = 0; p <= 9; p++) {
            Check.due("position " + p, x.position(2, p), true);
            Check.due("sensor " + p, x.sensor(2, p), true);
            Check.due("it is the position", x.unsure(2), false);
        }
        for (int p = 9; p >= 0; p--) {
            Check.due("position " + p, x.position(2, p), true);
            Check.due("the same once more", x.position(2, p), true);
        }
        PlantGraph y = Check.plantOf("valve 0\nvalve 0\n");
        y.position(0, 1);
        y.sensor(1, 0);
        Check.due("another valve's position stays", y.unsure(1), false);
    }

    private static void anotherPosition() {
        Check.sentence(SECTION, "False, refused, for another position");
        PlantGraph x = Check.plantOf(TEXT);
        x.position(2, 9);
        x.sensor(2, 9);
        for (int p : Check.outside(0, 9)) {
            Check.due("position " + p, x.position(2, p), false);
            Check.due("the position stays", x.unsure(2), false);
        }
    }

    private static void noValve() {
        Check.sentence(SECTION, "or when the thing is no valve.");
        PlantGraph x = Check.plantOf(TEXT);
        for (int p = 0; p <= 9; p++) {
            Check.due("of a tank", x.position(0, p), false);
            Check.due("of a pump", x.position(1, p), false);
        }
        Check.due("of a tank, another position", x.position(0, 10), false);
        Check.due("of a pump, another position", x.position(1, -1), false);
    }

    private static void noThing() {
        Check.sentence(SECTION, "A thing that is none is thrown as an index outside, before that.");
        PlantGraph x = Check.plantOf(TEXT);
        for (int thing : Check.outside(0, 2)) {
            Check.due("thing " + thing + " throws", Check.positionThrows(x, thing, 0), true);
            Check.due("before another position", Check.positionThrows(x, thing, 10), true);
            Check.due("before another position", Check.positionThrows(x, thing, -1), true);
        }
        Check.due("the first thing does not throw", Check.positionThrows(x, 0, 0), false);
        Check.due("the last thing does not throw", Check.positionThrows(x, 2, 0), false);
        Check.due("nor with another position", Check.positionThrows(x, 2, 10), false);
        Check.due("a new object has no thing 0", Check.positionThrows(new PlantGraph(), 0, 0), true);
        PlantGraph full = Check.plantOf("valve 0\n".repeat(40));
        Check.due("thing 39", full.position(39, 9), true);
        Check.due("thing 40 throws", Check.positionThrows(full, 40, 9), true);
        Check.due("and again", Check.positionThrows(full, 40, 9), true);
        Check.due("read", full.read(), 0);
        Check.due("things that were once are none", Check.positionThrows(full, 0, 0), true);
        Check.due("it is exactly that exception", thrownBy(full), "java.lang.IndexOutOfBoundsException");
    }

    private static String thrownBy(PlantGraph x) {
        try {
            x.position(0, 0);
            return "nothing";
        } catch (RuntimeException e) {
            return e.getClass().getName();
        }
    }
}
