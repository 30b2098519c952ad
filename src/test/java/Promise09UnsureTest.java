/** Promise 9: unsure. */
final class Promise09UnsureTest {
    private static final String SECTION = "Promise 9: unsure";

    public static void main(String[] args) {
        Check.sentence(SECTION, "Whether a valve's sensor has told something, and it is not its position.");
        nothingTold();
        everyPair();
        noValve();
        readAgain();
        Check.end("Promise09UnsureTest");
    }

    private static void nothingTold() {
        PlantGraph x = Check.plantOf("valve 0\nvalve 0\n");
        for (int p = 0; p <= 9; p++) {
            x.position(0, p);
            Check.due("nothing told, position " + p, x.unsure(0), false);
        }
        x.sensor(1, 5);
        Check.due("another valve's sensor", x.unsure(0), false);
        Check.due("the one that told", x.unsure(1), true);
    }

    private static void everyPair() {
        PlantGraph x = Check.plantOf("valve 0\n");
        Check.due("0 is told", x.sensor(0, 0), true);
        Check.due("the position is 0 at first", x.unsure(0), false);
        for (int told = 0; told <= 9; told++) {
            x.sensor(0, told);
            for (int p = 0; p <= 9; p++) {
                x.position(0, p);
                Check.due("told " + told + ", position " + p, x.unsure(0), told != p);
                Check.due("asked again", x.unsure(0), told != p);
            }
        }
        x.position(0, 3);
        x.sensor(0, 4);
        x.sensor(0, 3);
        Check.due("what it told last", x.unsure(0), false);
    }

    private static void noValve() {
        PlantGraph x = Check.plantOf("tank 5\npump\nvalve 0\n");
        x.sensor(0, 1);
        x.sensor(1, 1);
        x.sensor(2, 1);
        Check.due("a tank", x.unsure(0), false);
        Check.due("a pump", x.unsure(1), false);
        for (int thing : Check.outside(0, 2)) {
            Check.due("thing " + thing, x.unsure(thing), false);
        }
        PlantGraph full = Check.plantOf("valve 0\n".repeat(40));
        full.sensor(39, 1);
        Check.due("thing 39", full.unsure(39), true);
        Check.due("thing 40", full.unsure(40), false);
    }

    private static void readAgain() {
        PlantGraph x = Check.plantOf("valve 0\n");
        x.sensor(0, 1);
        Check.readText(x, "valve 0\n");
        Check.due("a new plant's sensor has told nothing", x.unsure(0), false);
    }
}
