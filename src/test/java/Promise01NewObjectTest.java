/** Promise 1: a new object. */
final class Promise01NewObjectTest {
    private static final String SECTION = "Promise 1: A new object";

    public static void main(String[] args) {
        Check.sentence(SECTION, "No things, no pipes, no text.");
        noThings();
        noPipes();
        noText();
        objectsAreApart();
        Check.end("Promise01NewObjectTest");
    }

    private static void noThings() {
        PlantGraph x = new PlantGraph();
        Check.due("position of thing 0 throws", Check.positionThrows(x, 0, 0), true);
        Check.due("sensor", x.sensor(0, 0), false);
        Check.due("unsure", x.unsure(0), false);
        Check.due("fill", x.fill(0, 1, 1), false);
        Check.due("move", x.move(0, 1, 1), -1);
        Check.due("joined", x.joined(0, 0), Check.NONE);
        Check.due("a pipe at thing 0", x.pipe(0, -1, 1), Check.NONE);
        Check.due("the first pump", x.pump(), 0);
        Check.due("the first tank", new PlantGraph().tank(1), 0);
        Check.due("the first valve", new PlantGraph().valve(0), 0);
    }

    private static void noPipes() {
        PlantGraph x = new PlantGraph();
        Check.due("content", x.content(0), Check.NONE);
        Check.due("bend", x.bend(0, 1), Check.NONE);
        Check.due("the first pipe", x.pipe(-1, -1, 1), 0);
        Check.due("the second pipe", x.pipe(-1, -1, 1), 1);
    }

    private static void noText() {
        PlantGraph x = new PlantGraph();
        Check.due("the plant's text", x.write(0), Check.NONE);
        Check.due("an empty text is read", x.read(), 0);
        Check.due("the plant's text", x.write(0), Check.NONE);
        PlantGraph y = new PlantGraph();
        y.unit('x');
        Check.due("the first byte's place", y.read(), -1);
    }

    private static void objectsAreApart() {
        PlantGraph x = Check.plantOf("tank 1\npipe 0 0 1\n");
        x.unit('t');
        PlantGraph y = new PlantGraph();
        Check.due("no things of another object", Check.positionThrows(y, 0, 0), true);
        Check.due("no pipes of another object", y.content(0), Check.NONE);
        Check.due("no text of another object", y.read(), 0);
        Check.due("the other one's text", x.read(), -2);
    }
}
