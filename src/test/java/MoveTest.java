/** Promise 12: move, and which way THE WAY is. */
final class MoveTest {
    public static void main(String[] args) {
        refusals();
        litreByLitre();
        whereItEnds();
        emptyLitresComeToAFullTank();
        whatComesMixes();
        backAndForth();
        fewestPipes();
        lesserNumberWhereTheyDifferFirst();
        longestWay();
        Check.end("MoveTest");
    }

    private static void refusals() {
        PlantGraph x = Check.plantOf("tank 9\ntank 9\npump\nvalve 0\ntank 9\npipe 0 1 1\n");
        int[] noTanks = {-1, 2, 3, 5, 40, Integer.MIN_VALUE, Integer.MAX_VALUE};
        for (int thing : noTanks) {
            Check.due("from " + thing, x.move(thing, 1, 1), -1);
            Check.due("to " + thing, x.move(0, thing, 1), -1);
        }
        long[] noLitres = {0, -1, 100001, Long.MIN_VALUE, Long.MAX_VALUE, 1L << 32, (1L << 32) + 1};
        x.fill(0, 1, 9);
        for (long litres : noLitres) {
            Check.due("litres " + litres, x.move(0, 1, litres), -1);
        }
        Check.due("both are one", x.move(0, 0, 1), -1);
        Check.due("no way", x.move(0, 4, 1), -1);
        Check.due("nothing was moved", x.content(0), 0);
        Check.due("as many as there are", x.move(0, 1, 100000), 9);
    }

    private static void litreByLitre() {
        PlantGraph x = Check.plantOf("tank 50\ntank 50\nvalve 3\npipe 0 2 2\npipe 2 1 3\n");
        x.fill(0, 1, 2);
        Check.due("move", x.move(0, 1, 2), 2);
        Check.due("the first pipe", x.content(0), 1);
        Check.due("the second pipe", x.content(1), 0);
        x.fill(0, 2, 3);
        Check.due("move", x.move(0, 1, 1), 1);
        Check.due("the first pipe", x.content(0), 15);
        Check.due("the second pipe", x.content(1), 15);
        Check.due("move", x.move(0, 1, 1), 1);
        Check.due("the first pipe", x.content(0), 2);
        Check.due("nothing came", x.fill(1, 3, 50), true);
        Check.due("a litre leads no litre out", x.move(0, 1, 5), 1);
        Check.due("the second pipe", x.content(1), 15);
        x.fill(0, 2, 5);
        Check.due("what would come does not fit", x.move(0, 1, 5), 0);
    }

    private static void whereItEnds() {
        PlantGraph x = Check.plantOf("tank 90\ntank 4\npipe 0 1 2\n");
        Check.due("the first tank has none", x.move(0, 1, 1), 0);
        x.fill(0, 1, 80);
        Check.due("two fill the pipe and four the tank", x.move(0, 1, 80), 6);
        Check.due("full", x.move(0, 1, 80), 0);
        Check.due("74 are left, 16 fit", x.fill(0, 1, 17), false);
        Check.due("74 are left, 16 fit", x.fill(0, 1, 16), true);
        Check.due("the tank is full", x.fill(1, 1, 1), false);

        PlantGraph y = Check.plantOf("tank 90\ntank 90\npipe 0 1 2\n");
        y.fill(0, 1, 80);
        Check.due("no more than asked", y.move(0, 1, 1), 1);
        Check.due("no more than asked", y.move(0, 1, 1), 1);
        Check.due("no more than asked", y.move(0, 1, 7), 7);
        Check.due("7 came", y.fill(1, 1, 84), false);
        Check.due("7 came", y.fill(1, 1, 83), true);
    }

    private static void emptyLitresComeToAFullTank() {
        PlantGraph x = Check.plantOf("tank 9\ntank 2\npipe 0 1 4\n");
        x.fill(0, 1, 9);
        x.fill(1, 2, 2);
        Check.due("four empty ones leave", x.move(0, 1, 9), 4);
        Check.due("the pipe", x.content(0), 1);
        Check.due("five are left", x.fill(0, 1, 5), false);
        Check.due("five are left", x.fill(0, 1, 4), true);
    }

    private static void whatComesMixes() {
        PlantGraph x = Check.plantOf("tank 9\ntank 9\ntank 9\npipe 0 1 1\npipe 1 2 1\n");
        x.fill(0, 1, 3);
        x.fill(1, 2, 1);
        x.move(0, 1, 1);
        Check.due("no litre came", x.move(1, 2, 1), 1);
        Check.due("only the second liquid", x.content(1), 2);
        x.move(0, 1, 1);
        x.move(1, 2, 1);
        Check.due("a tank that had none takes what comes", x.content(1), 1);
        x.fill(1, 2, 1);
        x.move(0, 1, 1);
        Check.due("move", x.move(1, 2, 9), 2);
        Check.due("another litre makes all mixed", x.content(1), 15);
        x.fill(2, 3, 1);
        Check.due("2 and 1 came before, now 3", x.move(2, 1, 1), 1);
        Check.due("back", x.content(1), 15);
        x.fill(1, 3, 1);
        x.move(1, 2, 1);
        Check.due("a mixed litre makes a tank mixed", x.content(1), 15);
    }

    private static void backAndForth() {
        PlantGraph x = Check.plantOf("tank 9\ntank 9\npipe 1 0 3\n");
        x.fill(0, 5, 1);
        x.fill(1, 6, 3);
        x.move(0, 1, 1);
        Check.due("one litre at B", x.content(0), 15);
        Check.due("from A it leaves first", x.move(1, 0, 1), 1);
        Check.due("it came back to its tank", x.fill(0, 5, 9), false);
        Check.due("it came back to its tank", x.fill(0, 5, 8), true);
        x.move(1, 0, 2);
        Check.due("three litres from A", x.content(0), 6);
        Check.due("move", x.move(1, 0, 2), 0);
        Check.due("two of tank 0 at B", x.move(0, 1, 2), 2);
        Check.due("5 5 6", x.content(0), 15);
        Check.due("one more", x.move(0, 1, 1), 1);
        Check.due("5 5 5", x.content(0), 5);
    }

    private static void fewestPipes() {
        PlantGraph x = Check.plantOf("tank 9\ntank 9\nvalve 2\nvalve 3\n"
                + "pipe 0 2 1\npipe 2 3 1\npipe 3 1 1\npipe 2 1 1\npipe 0 1 1\n");
        x.fill(0, 1, 9);
        Check.due("move", x.move(0, 1, 1), 1);
        Check.due("pipe 0 is not on the way", x.content(0), 0);
        Check.due("pipe 4 is the way", x.content(4), 1);

        PlantGraph y = Check.plantOf("tank 9\ntank 9\nvalve 2\nvalve 3\n"
                + "pipe 0 2 1\npipe 2 3 1\npipe 3 1 1\npipe 2 1 1\n");
        y.fill(0, 1, 9);
        Check.due("move", y.move(0, 1, 2), 2);
        Check.due("pipe 1 is not on the way", y.content(1), 0);
        Check.due("pipe 3 is on the way", y.content(3), 1);
        y.position(2, 1);
        Check.due("move", y.move(0, 1, 2), 2);
        Check.due("pipe 1 is on the way now", y.content(1), 1);
    }

    private static void lesserNumberWhereTheyDifferFirst() {
        // 0 2 and 1 3 lead to tank 1 with two pipes: the first pipe decides, then the second one.
        PlantGraph x = Check.plantOf("tank 9\ntank 9\nvalve 3\nvalve 3\n"
                + "pipe 0 2 1\npipe 0 3 1\npipe 3 1 1\npipe 2 1 1\n");
        x.fill(0, 1, 9);
        x.move(0, 1, 2);
        Check.due("pipe 0", x.content(0), 1);
        Check.due("pipe 1", x.content(1), 0);
        Check.due("pipe 2", x.content(2), 0);
        Check.due("pipe 3", x.content(3), 1);

        PlantGraph y = Check.plantOf("valve 4\ntank 9\ntank 9\npipe 0 2 1\npipe 2 0 1\npipe 1 0 1\npipe 0 2 1\n");
        y.position(0, 1);
        y.fill(1, 1, 9);
        y.move(1, 2, 2);
        Check.due("the last pipe is the least of three", y.content(0), 1);
        Check.due("not this one", y.content(1), 0);
        Check.due("not this one", y.content(3), 0);
        y.position(0, 0);
        y.move(1, 2, 1);
        Check.due("that which the position passes", y.content(3), 1);
    }

    private static void longestWay() {
        PlantGraph x = new PlantGraph();
        x.tank(100000);
        x.tank(100000);
        x.pipe(0, -1, 200);
        for (int n = 1; n < 59; n++) {
            x.pipe(-1, -1, 200);
        }
        x.pipe(1, -1, 200);
        for (int n = 1; n < 60; n++) {
            Check.due("bend " + n, x.bend(n - 1, n), 1);
        }
        x.fill(0, 3, 100000);
        Check.due("12000 litres are in the way", x.move(0, 1, 11999), 11999);
        Check.due("all but the last", x.content(58), 3);
        Check.due("the last", x.content(59), 15);
        Check.due("one more", x.move(0, 1, 1), 1);
        Check.due("the last", x.content(59), 3);
        Check.due("none came", x.fill(1, 4, 100000), true);
        Check.due("the other tank is full", x.move(0, 1, 100000), 0);
        Check.due("the way back", x.move(1, 0, 100000), 12000);
        Check.due("the first", x.content(0), 4);
        Check.due("again", x.move(1, 0, 100000), 0);
        Check.due("and back", x.move(0, 1, 100000), 12000);
    }
}
