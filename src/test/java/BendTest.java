/** Promise 6: bend. */
final class BendTest {
    public static void main(String[] args) {
        refusals();
        inAndOut();
        whichEnd();
        bothWays();
        Check.end("BendTest");
    }

    private static void refusals() {
        PlantGraph x = Check.plantOf("tank 5\ntank 5\npipe 0 - 1\npipe 0 1 1\npipe - 1 1\npipe 0 - 1\n");
        int[] none = {-1, 4, 60, Integer.MAX_VALUE, Integer.MIN_VALUE, -2, 1 << 30, 1 << 31};
        for (int n : none) {
            Check.due("first " + n, x.bend(n, 0), Check.NONE);
            Check.due("second " + n, x.bend(0, n), Check.NONE);
        }
        Check.due("both are one", x.bend(0, 0), Check.NONE);
        Check.due("no free end", x.bend(0, 1), Check.NONE);
        Check.due("no free end", x.bend(1, 0), Check.NONE);
        Check.due("put in", x.bend(0, 2), 1);
        Check.due("the free end has a bend", x.bend(0, 3), Check.NONE);
        Check.due("the free end has a bend", x.bend(3, 2), Check.NONE);
        Check.due("taken out", x.bend(2, 0), 0);
        Check.due("put in elsewhere", x.bend(3, 2), 1);
    }

    private static void inAndOut() {
        PlantGraph x = Check.plantOf("tank 5\ntank 5\npipe 0 - 1\npipe 1 - 1\n");
        for (int n = 0; n < 3; n++) {
            Check.due("no way yet", Check.tanksFrom(x, 0), "");
            Check.due("put in", x.bend(0, 1), 1);
            Check.due("a way", Check.tanksFrom(x, 0), "1");
            Check.due("taken out", x.bend(n % 2, 1 - n % 2), 0);
        }
        Check.due("no way any more", Check.tanksFrom(x, 0), "");
        Check.due("bends are not in the text", Check.written(x), "tank 5\ntank 5\npipe 0 - 1\npipe 1 - 1\n");
    }

    private static void whichEnd() {
        // Pipe 2 is free at both ends: its first bend comes to A, the next to B.
        PlantGraph x = Check.plantOf("tank 5\ntank 5\ntank 5\npipe 0 - 1\npipe 1 - 1\npipe - - 2\npipe 2 - 1\n");
        Check.due("at A", x.bend(2, 0), 1);
        Check.due("no other tank at B", Check.tanksFrom(x, 0), "");
        Check.due("at B", x.bend(1, 2), 1);
        Check.due("from 0 to 1", Check.tanksFrom(x, 0), "1");
        Check.due("from 1 to 0", Check.tanksFrom(x, 1), "0");
        Check.due("both ends have bends", x.bend(2, 3), Check.NONE);
        Check.due("that at A is taken out", x.bend(0, 2), 0);
        Check.due("A is free again", x.bend(3, 2), 1);
        Check.due("from 1 to 2", Check.tanksFrom(x, 1), "2");

        Check.due("fill", x.fill(2, 4, 3), true);
        Check.due("from A to B", x.move(2, 1, 2), 2);
        Check.due("A litre and an empty one", x.content(2), 15);
        Check.due("that at B is taken out", x.bend(2, 1), 0);
        Check.due("that at A is still there", x.bend(2, 3), 0);
        Check.due("at A now", x.bend(2, 1), 1);
        Check.due("at B now", x.bend(2, 0), 1);
        Check.due("fill", x.fill(1, 9, 1), true);
        Check.due("from tank 1 at A", x.move(1, 0, 1), 1);
        Check.due("the litre at A is in the same pipe", x.content(1), 9);
        Check.due("it went on by one", x.content(2), 15);
    }

    private static void bothWays() {
        PlantGraph x = Check.plantOf("tank 5\ntank 5\npipe - 0 1\npipe - - 3\npipe - 1 1\n");
        x.bend(0, 1);
        x.bend(1, 2);
        Check.due("from 0", Check.tanksFrom(x, 0), "1");
        Check.due("from 1", Check.tanksFrom(x, 1), "0");
        Check.due("more pipes with free ends come", x.pipe(-1, -1, 1), 3);
        Check.due("a free end that is not bent", x.bend(3, 1), Check.NONE);
    }
}
