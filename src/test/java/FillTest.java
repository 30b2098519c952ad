/** Promises 10 and 11: content and fill. */
final class FillTest {
    public static void main(String[] args) {
        refusals();
        liquidsOfATank();
        contents();
        Check.end("FillTest");
    }

    private static void refusals() {
        PlantGraph x = Check.plantOf("tank 100000\npump\nvalve 0\ntank 3\n");
        int[] noTanks = {-1, 1, 2, 4, 40, Integer.MIN_VALUE, Integer.MAX_VALUE};
        for (int thing : noTanks) {
            Check.due("fill thing " + thing, x.fill(thing, 1, 1), false);
        }
        int[] noLiquids = {-1, 0, 15, 16, 17, Integer.MIN_VALUE, Integer.MAX_VALUE};
        for (int liquid : noLiquids) {
            Check.due("fill liquid " + liquid, x.fill(0, liquid, 1), false);
        }
        long[] noLitres = {0, -1, 100001, Long.MIN_VALUE, Long.MAX_VALUE, 1L << 32, (1L << 32) + 1};
        for (long litres : noLitres) {
            Check.due("fill litres " + litres, x.fill(0, 1, litres), false);
        }
        Check.due("too many for the tank", x.fill(3, 1, 4), false);
        Check.due("two", x.fill(3, 1, 2), true);
        Check.due("two more don't fit", x.fill(3, 1, 2), false);
        Check.due("one more fits", x.fill(3, 14, 1), true);
        Check.due("it is full", x.fill(3, 1, 1), false);
        Check.due("nothing refused came in", x.fill(0, 1, 100000), true);
    }

    private static void liquidsOfATank() {
        String text = "tank 9\ntank 9\npipe 0 1 1\n";
        PlantGraph x = Check.plantOf(text);
        x.fill(0, 14, 2);
        x.fill(0, 14, 1);
        x.move(0, 1, 1);
        Check.due("one liquid", x.content(0), 14);
        x.fill(0, 13, 1);
        x.move(0, 1, 1);
        Check.due("another one makes it mixed", x.content(0), 15);
        x.fill(0, 14, 1);
        x.move(0, 1, 1);
        Check.due("mixed stays mixed", x.content(0), 15);
        x.move(0, 1, 9);
        x.fill(0, 2, 1);
        x.move(0, 1, 1);
        Check.due("an empty tank has no liquid", x.content(0), 2);
    }

    private static void contents() {
        PlantGraph x = Check.plantOf("tank 500\ntank 500\npipe 0 1 3\npipe - - 200\n");
        Check.due("empty at first", x.content(0), 0);
        x.fill(0, 7, 4);
        x.move(0, 1, 1);
        Check.due("a litre, and empty ones", x.content(0), 15);
        x.move(0, 1, 1);
        Check.due("two litres, and an empty one", x.content(0), 15);
        x.move(0, 1, 1);
        Check.due("all litres are of one", x.content(0), 7);
        x.move(0, 1, 1);
        x.fill(0, 8, 3);
        x.move(0, 1, 2);
        Check.due("two liquids", x.content(0), 15);
        x.move(0, 1, 1);
        Check.due("all of another one", x.content(0), 8);
        Check.due("the other pipe", x.content(1), 0);
        int[] none = {-1, 2, 60, Integer.MIN_VALUE, Integer.MAX_VALUE};
        for (int pipe : none) {
            Check.due("content " + pipe, x.content(pipe), Check.NONE);
        }
    }
}
