/** Promise 10: content. */
final class Promise10ContentTest {
    private static final String SECTION = "Promise 10: content";
    private static final String TEXT = "tank 500\ntank 500\npipe 0 1 3\npipe 0 - 200\n";

    public static void main(String[] args) {
        allEmpty();
        allOfOne();
        several();
        noPipe();
        Check.end("Promise10ContentTest");
    }

    private static PlantGraph filled(String text, int liquid, long litres, long moved) {
        PlantGraph x = Check.plantOf(text);
        Check.due("fill", x.fill(0, liquid, litres), true);
        Check.due("move", x.move(0, 1, moved), moved);
        return x;
    }

    private static void allEmpty() {
        Check.sentence(SECTION, "The liquid in a pipe: 0 when all of it is empty");
        PlantGraph x = Check.plantOf(TEXT);
        Check.due("a new pipe", x.content(0), 0);
        Check.due("a new pipe of 200 litres", x.content(1), 0);
        x.fill(0, 7, 9);
        Check.due("a full tank beside it", x.content(0), 0);
        x.move(0, 1, 3);
        Check.due("a pipe that is not on the way", x.content(1), 0);
        PlantGraph y = filled("tank 9\ntank 9\nvalve 3\npipe 0 2 1\npipe 2 1 1\n", 7, 1, 1);
        Check.due("the first litre is not there yet", y.content(1), 0);
    }

    private static void allOfOne() {
        Check.sentence(SECTION, "the one that all its litres have");
        for (int liquid = 1; liquid <= 14; liquid++) {
            Check.due("three litres of " + liquid, filled(TEXT, liquid, 9, 3).content(0), liquid);
            Check.due("and one more", filled(TEXT, liquid, 9, 4).content(0), liquid);
        }
        Check.due("a pipe of one litre", filled("tank 9\ntank 9\npipe 0 1 1\n", 5, 9, 1).content(0), 5);
        String longest = "tank 500\ntank 500\npipe 0 1 200\n";
        Check.due("200 litres", filled(longest, 5, 400, 200).content(0), 5);

        PlantGraph x = Check.plantOf(TEXT);
        x.fill(0, 2, 1);
        x.fill(0, 3, 3);
        x.move(0, 1, 3);
        Check.due("three mixed litres", x.content(0), 15);
    }

    private static void several() {
        Check.sentence(SECTION, "15 when there are several (empty is one of them).");
        Check.due("a litre and two empty ones", filled(TEXT, 7, 9, 1).content(0), 15);
        Check.due("two litres and an empty one", filled(TEXT, 7, 9, 2).content(0), 15);
        String longest = "tank 500\ntank 500\npipe 0 1 200\n";
        Check.due("one litre of 200", filled(longest, 7, 400, 1).content(0), 15);
        Check.due("199 litres of 200", filled(longest, 7, 400, 199).content(0), 15);

        PlantGraph x = filled(TEXT, 7, 3, 3);
        x.fill(0, 8, 3);
        x.move(0, 1, 1);
        Check.due("two of one liquid, one of another", x.content(0), 15);
        x.move(0, 1, 1);
        Check.due("one of one liquid, two of another", x.content(0), 15);
        x.move(0, 1, 1);
        Check.due("all of another", x.content(0), 8);

        // Tank 3's pipe pushes an empty litre between two litres of 1.
        PlantGraph y = Check.plantOf("tank 9\ntank 9\nvalve 2\ntank 9\npipe 0 2 1\npipe 2 1 3\npipe 3 2 5\n");
        y.fill(0, 1, 9);
        y.fill(3, 1, 9);
        y.move(0, 1, 2);
        y.move(3, 1, 1);
        Check.due("empty, 1, empty", y.content(1), 15);
        y.move(0, 1, 1);
        Check.due("1, empty, 1", y.content(1), 15);
    }

    private static void noPipe() {
        Check.sentence(SECTION, "NONE when there is no such pipe.");
        Check.due("there is none at all", new PlantGraph().content(0), Check.NONE);
        PlantGraph x = Check.plantOf(TEXT);
        for (int pipe : Check.outside(0, 1)) {
            Check.due("content " + pipe, x.content(pipe), Check.NONE);
        }
        Check.due("the last one", x.content(1), 0);
        x.pipe(-1, -1, 1);
        Check.due("one more has come", x.content(2), 0);
        PlantGraph full = Check.freePipes(60);
        Check.due("59", full.content(59), 0);
        Check.due("60", full.content(60), Check.NONE);
        full.read();
        Check.due("a pipe that was once", full.content(0), Check.NONE);
    }
}
