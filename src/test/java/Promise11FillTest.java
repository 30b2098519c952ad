/** Promise 11: fill. */
final class Promise11FillTest {
    private static final String SECTION = "Promise 11: fill";

    public static void main(String[] args) {
        filledIn();
        noTank();
        otherNumbers();
        theyDoNotFit();
        Check.end("Promise11FillTest");
    }

    private static void filledIn() {
        Check.sentence(SECTION, "Litres (1 to 100,000) of a liquid (1 .. 14) are filled into a tank: true.");
        long[] litres = {1, 2, 99999, 100000};
        for (long l : litres) {
            PlantGraph x = Check.plantOf("tank 100000\n");
            Check.due("fill " + l, x.fill(0, 1, l), true);
            Check.due("so much is left", Check.fillUp(x, 0), 100000 - l);
        }
        for (int liquid = 1; liquid <= 14; liquid++) {
            PlantGraph x = Check.plantOf("tank 9\ntank 9\npipe 0 1 1\n");
            Check.due("liquid " + liquid, x.fill(0, liquid, 9), true);
            x.move(0, 1, 1);
            Check.due("it is in the tank", x.content(0), liquid);
        }
        PlantGraph y = Check.plantOf("tank 9\ntank 9\n");
        y.fill(0, 1, 9);
        Check.due("another tank stays empty", Check.fillUp(y, 1), 9);
    }

    private static void noTank() {
        Check.sentence(SECTION, "False, refused, when it is no tank");
        PlantGraph x = Check.plantOf("tank 9\npump\nvalve 0\ntank 9\n");
        Check.due("a pump", x.fill(1, 1, 1), false);
        Check.due("a valve", x.fill(2, 1, 1), false);
        for (int thing : Check.outside(0, 3)) {
            Check.due("thing " + thing, x.fill(thing, 1, 1), false);
        }
        Check.due("the first thing", x.fill(0, 1, 1), true);
        Check.due("the last thing", x.fill(3, 1, 1), true);
        PlantGraph full = Check.plantOf("tank 5\n".repeat(40));
        Check.due("thing 39", full.fill(39, 1, 5), true);
        Check.due("thing 40", full.fill(40, 1, 5), false);
    }

    private static void otherNumbers() {
        Check.sentence(SECTION, "for other numbers");
        PlantGraph x = Check.plantOf("tank 100000\n");
        for (int liquid : Check.outside(1, 14)) {
            Check.due("liquid " + liquid, x.fill(0, liquid, 1), false);
        }
        Check.due("no one fills in what is mixed", x.fill(0, 15, 1), false);
        Check.due("no one fills in what is empty", x.fill(0, 0, 1), false);
        for (long litres : Check.outside(1L, 100000L)) {
            Check.due("litres " + litres, x.fill(0, 1, litres), false);
        }
        Check.due("nothing refused came in", x.fill(0, 14, 100000), true);
    }

    private static void theyDoNotFit() {
        Check.sentence(SECTION, "or when they do not fit.");
        PlantGraph x = Check.plantOf("tank 3\ntank 1\ntank 100000\ntank 3\npipe 0 3 1\n");
        Check.due("one too many for an empty tank", x.fill(0, 1, 4), false);
        Check.due("two", x.fill(0, 1, 2), true);
        Check.due("two more don't fit", x.fill(0, 2, 2), false);
        x.move(0, 3, 1);
        Check.due("the refused ones made nothing mixed", x.content(0), 1);
        Check.due("three don't fit", x.fill(0, 1, 3), false);
        Check.due("two fit now", x.fill(0, 1, 2), true);
        Check.due("it is full", x.fill(0, 1, 1), false);
        Check.due("a tank of one litre", x.fill(1, 1, 2), false);
        Check.due("a tank of one litre", x.fill(1, 1, 1), true);
        Check.due("it is full", x.fill(1, 1, 1), false);
        Check.due("all but one", x.fill(2, 1, 99999), true);
        Check.due("two", x.fill(2, 1, 2), false);
        Check.due("one", x.fill(2, 1, 1), true);
        for (long litres : Check.outside(1L, 100000L)) {
            Check.due("litres " + litres + " in a full tank", x.fill(2, 1, litres), false);
        }
    }
}
