/** Terms: ways, and which of them is THE WAY. */
final class TermsWaysTest {
    private static final String SECTION = "Terms";

    public static void main(String[] args) {
        fromTankToTank();
        noneTwice();
        asThingsPassAndBendsJoin();
        fewestPipes();
        lesserNumber();
        Check.end("TermsWaysTest");
    }

    private static void fromTankToTank() {
        Check.sentence(SECTION, "WAYS go from a port of a tank to one of another tank, over pipes");
        PlantGraph x = Check.plantOf("tank 1\ntank 1\ntank 1\npipe 0 1 1\npipe 1 2 1\n");
        Check.due("no way over a tank", Check.tanksFrom(x, 0), "1");
        Check.due("from the one between", Check.tanksFrom(x, 1), "0 2");
        Check.due("no way over a tank", Check.tanksFrom(x, 2), "1");
        Check.due("no way to 2", x.move(0, 2, 1), -1);
        PlantGraph y = Check.plantOf("tank 1\ntank 1\npump\npipe 0 2 1\npipe 2 0 1\n");
        Check.due("no way to the same tank", Check.tanksFrom(y, 0), "");
        Check.due("no way without pipes", Check.tanksFrom(y, 1), "");
    }

    private static void noneTwice() {
        Check.sentence(SECTION, "none twice");
        // A way that takes a pipe again can be cut short in every plant, so what can be seen is that none is longer.
        PlantGraph x = Check.plantOf("tank 9\nvalve 1\ntank 9\npipe 0 1 1\npipe 1 - 1\npipe 1 2 1\n");
        Check.due("a blind end is not gone back", Check.tanksFrom(x, 0), "");
        x.position(1, 1);
        Check.due("past it", Check.tanksFrom(x, 0), "2");
        // A loop behind pipe 1 would turn the way round, into pipe 1 and pipe 0 once more.
        PlantGraph y = Check.plantOf("tank 9\nvalve 0\nvalve 2\ntank 9\npipe 0 1 1\npipe 1 2 1\npipe 2 2 1\npipe 0 3 1\n");
        y.position(1, 1);
        Check.due("only over pipe 3", Check.tanksFrom(y, 0), "3");
        // A valve that passes all of its ports, a loop at it: pipe 0 is not taken again.
        PlantGraph z = Check.plantOf("tank 9\nvalve 4\npipe 0 1 1\npipe 1 1 1\ntank 9\npump\npipe 1 3 1\npipe 2 3 1\n");
        z.position(1, 1);
        Check.due("from 0 over the pump", Check.tanksFrom(z, 0), "2");
        Check.due("not back", Check.tanksFrom(z, 2), "");
        z.fill(0, 5, 9);
        z.move(0, 2, 3);
        Check.due("the loop is not on the way", Check.contents(z), "5 0 5 5");
    }

    private static void asThingsPassAndBendsJoin() {
        Check.sentence(SECTION, "from one pipe to the next as things pass and bends join.");
        PlantGraph x = Check.plantOf("tank 9\ntank 9\npump\nvalve 0\nvalve 8\n"
                + "pipe 0 2 1\npipe 2 3 1\npipe 3 - 1\npipe - 4 1\npipe 4 1 1\n");
        int[][] closed = {{0, 0, 0}, {1, 0, 0}, {0, 1, 0}, {0, 0, 1}, {1, 1, 0}, {1, 0, 1}, {0, 1, 1}, {1, 1, 1}};
        for (int[] c : closed) {
            x.position(3, c[0] == 1 ? 0 : 1);
            x.position(4, c[1] == 1 ? 0 : 1);
            if (c[2] == 0) {
                Check.due("the bend", x.bend(2, 3), 1);
            }
            Check.due("a way when all are open", Check.tanksFrom(x, 0), c[0] + c[1] + c[2] == 0 ? "1" : "");
            Check.due("never against the pump", Check.tanksFrom(x, 1), "");
            if (c[2] == 0) {
                Check.due("the bend", x.bend(2, 3), 0);
            }
        }
        PlantGraph y = Check.plantOf("tank 9\ntank 9\npipe 0 - 1\npipe - 1 1\n");
        Check.due("free ends without a bend", Check.tanksFrom(y, 0), "");
    }

    private static void fewestPipes() {
        Check.sentence(SECTION, "THE WAY from one tank to another is that with the fewest pipes");
        String four = "tank 9\ntank 9\nvalve 2\nvalve 3\npipe 0 2 1\npipe 2 3 1\npipe 3 1 1\npipe 2 1 1\n";
        PlantGraph x = Check.plantOf(four + "pipe 0 1 1\n");
        x.fill(0, 1, 9);
        Check.due("move", x.move(0, 1, 1), 1);
        Check.due("one pipe", Check.contents(x), "0 0 0 0 1");
        PlantGraph y = Check.plantOf(four);
        y.fill(0, 1, 9);
        Check.due("move", y.move(0, 1, 2), 2);
        Check.due("two pipes", Check.contents(y), "1 0 0 1");
        y.position(2, 1);
        Check.due("move", y.move(0, 1, 2), 2);
        Check.due("three pipes, when no other way is there", Check.contents(y), "1 1 1 1");
        // Fewest pipes, not fewest litres.
        PlantGraph z = Check.plantOf("tank 9\ntank 9\nvalve 3\npipe 0 2 1\npipe 2 1 1\npipe 0 1 200\n");
        z.fill(0, 1, 9);
        z.move(0, 1, 9);
        Check.due("one long pipe", Check.contents(z), "0 0 15");
        // A way over bends counts its pipes, too.
        PlantGraph w = Check.plantOf("tank 9\ntank 9\npipe 0 - 1\npipe - - 1\npipe - 1 1\nvalve 3\npipe 0 2 1\npipe 2 1 1\n");
        w.bend(0, 1);
        w.bend(1, 2);
        w.fill(0, 1, 9);
        w.move(0, 1, 3);
        Check.due("two pipes and a valve", Check.contents(w), "0 0 0 1 1");
    }

    private static void lesserNumber() {
        Check.sentence(SECTION, "of several the one whose pipe has the lesser number where they differ first.");
        PlantGraph first = Check.plantOf("tank 9\ntank 9\nvalve 3\nvalve 3\npipe 0 2 1\npipe 0 3 1\npipe 3 1 1\npipe 2 1 1\n");
        first.fill(0, 1, 9);
        first.move(0, 1, 2);
        Check.due("0 3 and not 1 2: the first pipe decides", Check.contents(first), "1 0 0 1");

        PlantGraph last = Check.plantOf("valve 4\ntank 9\ntank 9\npipe 0 2 1\npipe 2 0 1\npipe 1 0 1\npipe 0 2 1\n");
        last.position(0, 1);
        last.fill(1, 1, 9);
        last.move(1, 2, 2);
        Check.due("2 0, not 2 1 and not 2 3: the last pipe decides", Check.contents(last), "1 0 1 0");
        last.position(0, 0);
        last.move(1, 2, 1);
        Check.due("2 3, which alone is there now", Check.contents(last), "1 0 1 1");

        PlantGraph one = Check.plantOf("tank 9\ntank 9\npipe 1 0 1\npipe 0 1 1\n");
        one.fill(0, 1, 9);
        one.move(0, 1, 1);
        Check.due("pipe 0 and not pipe 1, from B to A", Check.contents(one), "1 0");
        one.fill(1, 2, 9);
        one.move(1, 0, 1);
        Check.due("the same way back", Check.contents(one), "2 0");

        // From 0 to 1: 0 2 5 and 1 3 4 are as long, and 0 is the lesser. Back: 5 2 0 and 4 3 1, and 4 is the lesser.
        PlantGraph back = Check.plantOf("tank 9\ntank 9\nvalve 7\nvalve 7\nvalve 7\nvalve 7\n"
                + "pipe 0 2 1\npipe 0 3 1\npipe 2 4 1\npipe 3 5 1\npipe 5 1 1\npipe 4 1 1\n");
        for (int valve = 2; valve <= 5; valve++) {
            back.position(valve, 9);
        }
        back.fill(0, 1, 3);
        back.move(0, 1, 3);
        Check.due("0 2 5", Check.contents(back), "1 0 1 0 0 1");
        back.fill(1, 2, 3);
        back.move(1, 0, 3);
        Check.due("back it is 4 3 1", Check.contents(back), "1 2 1 2 2 1");
    }
}
