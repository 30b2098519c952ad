/** Terms: bends. */
final class TermsBendsTest {
    private static final String SECTION = "Terms";

    public static void main(String[] args) {
        joinsBothWays();
        whichEnd();
        oneBend();
        Check.end("TermsBendsTest");
    }

    private static void joinsBothWays() {
        Check.sentence(SECTION, "A BEND joins the free ends of two pipes, both ways");
        String[] pipes = {"pipe 0 - 1\npipe 1 - 1\n", "pipe 0 - 1\npipe - 1 1\n", "pipe - 0 1\npipe 1 - 1\n",
            "pipe - 0 1\npipe - 1 1\n"};
        for (String text : pipes) {
            PlantGraph x = Check.plantOf("tank 5\ntank 5\n" + text);
            Check.due("no bend yet", Check.tanksFrom(x, 0), "");
            Check.due("put in", x.bend(0, 1), 1);
            Check.due("from 0", Check.tanksFrom(x, 0), "1");
            Check.due("from 1", Check.tanksFrom(x, 1), "0");
            x.fill(0, 3, 1);
            Check.due("a litre", x.move(0, 1, 1), 1);
            Check.due("in the first pipe", Check.contents(x), "3 0");
            x.fill(1, 4, 2);
            Check.due("two litres back", x.move(1, 0, 2), 2);
            Check.due("in both pipes", Check.contents(x), "4 4");
        }
    }

    private static void whichEnd() {
        Check.sentence(SECTION, "(of a pipe with two free ends: B, when A has a bend already, else A).");
        // Pipe 2 has two free ends and two litres: what comes in at A is not at B yet.
        PlantGraph x = Check.plantOf("tank 5\ntank 5\ntank 5\npipe 0 - 1\npipe 1 - 1\npipe - - 2\npipe 2 - 1\n");
        Check.due("at A", x.bend(2, 0), 1);
        Check.due("at B", x.bend(1, 2), 1);
        Check.due("from A to B", Check.tanksFrom(x, 0), "1");
        x.fill(0, 4, 2);
        Check.due("two litres", x.move(0, 1, 2), 2);
        Check.due("one is at A", Check.contents(x), "4 0 15 0");
        Check.due("that at A is taken out", x.bend(0, 2), 0);
        Check.due("A has none now, B has one: A", x.bend(3, 2), 1);
        Check.due("fill", x.fill(2, 5, 3), true);
        String[] dues = {"4 0 15 5", "4 4 15 5", "4 0 5 5"};
        for (String due : dues) {
            Check.due("a litre from tank 2, in at A", x.move(2, 1, 1), 1);
            Check.due("the litre of 4 goes on to B and leaves", Check.contents(x), due);
        }

        // Both are taken out: the next one is at A again. Had it come to B, 5 would leave at once.
        PlantGraph y = Check.plantOf("tank 5\ntank 5\npipe 0 - 1\npipe - - 2\npipe 1 - 1\n");
        y.bend(0, 1);
        y.bend(1, 2);
        y.fill(0, 5, 2);
        y.move(0, 1, 2);
        y.bend(0, 1);
        y.bend(1, 2);
        Check.due("tank 1's pipe at A", y.bend(2, 1), 1);
        Check.due("tank 0's pipe at B", y.bend(1, 0), 1);
        y.fill(1, 6, 3);
        Check.due("a litre in at A pushes that of 5 on to B", y.move(1, 0, 1), 1);
        Check.due("the litre of pipe 0 has left", Check.contents(y), "0 15 6");
        Check.due("one more", y.move(1, 0, 1), 1);
        Check.due("the litre of 5 leaves at B", Check.contents(y), "5 15 6");
    }

    private static void oneBend() {
        Check.sentence(SECTION, "A pipe's end has one bend at most.");
        PlantGraph x = Check.plantOf("tank 5\ntank 5\npipe 0 - 1\npipe 1 - 1\npipe 1 - 1\n");
        Check.due("the first", x.bend(0, 1), 1);
        Check.due("a second one", x.bend(0, 2), Check.NONE);
        Check.due("a second one", x.bend(2, 0), Check.NONE);
        Check.due("a second one", x.bend(1, 2), Check.NONE);
        Check.due("taken out", x.bend(0, 1), 0);
        Check.due("put in elsewhere", x.bend(0, 2), 1);
        PlantGraph y = Check.freePipes(4);
        Check.due("at A", y.bend(0, 1), 1);
        Check.due("at B", y.bend(0, 2), 1);
        Check.due("no third one", y.bend(0, 3), Check.NONE);
        Check.due("no third one", y.bend(3, 0), Check.NONE);
    }
}
