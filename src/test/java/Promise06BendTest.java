/** Promise 6: bend. */
final class Promise06BendTest {
    private static final String SECTION = "Promise 6: bend";
    // Pipes 0, 3 and 4 have a free end, pipe 1 has none, pipes 2 and 5 have two.
    private static final String PANEL =
            "tank 5\ntank 5\npipe 0 - 1\npipe 0 1 1\npipe - - 2\npipe - 1 1\npipe 0 - 1\npipe - - 1\n";

    public static void main(String[] args) {
        putIn();
        takenOut();
        ofTwo();
        noPipe();
        bothAreOne();
        noFreeEnd();
        Check.end("Promise06BendTest");
    }

    private static void putIn() {
        Check.sentence(SECTION, "A bend between two different pipes is put in, 1");
        PlantGraph x = Check.plantOf("tank 5\ntank 5\npipe 0 - 1\npipe 1 - 1\n");
        Check.due("no way yet", Check.tanksFrom(x, 0), "");
        Check.due("put in", x.bend(0, 1), 1);
        Check.due("a way", Check.tanksFrom(x, 0), "1");
        Check.due("bends are not in the text", Check.written(x), "tank 5\ntank 5\npipe 0 - 1\npipe 1 - 1\n");
        PlantGraph y = Check.plantOf("pipe - - 1\npipe - - 1\n");
        Check.due("two pipes at no thing", y.bend(1, 0), 1);
        PlantGraph full = Check.freePipes(60);
        Check.due("the first pipe and the last one", full.bend(0, 59), 1);
    }

    private static void takenOut() {
        Check.sentence(SECTION, "or taken out where there is one, 0");
        PlantGraph x = Check.plantOf("tank 5\ntank 5\npipe 0 - 1\npipe 1 - 1\n");
        for (int n = 0; n < 4; n++) {
            Check.due("put in", x.bend(0, 1), 1);
            Check.due("taken out, in either order", x.bend(n % 2, 1 - n % 2), 0);
            Check.due("no way any more", Check.tanksFrom(x, 0), "");
        }
        PlantGraph y = Check.plantOf(PANEL);
        y.bend(0, 2);
        y.bend(2, 3);
        Check.due("a way over two bends", Check.tanksFrom(y, 0), "1");
        Check.due("taken out, though no end is free without a bend", y.bend(3, 2), 0);
        Check.due("the other one stays", y.bend(0, 4), Check.NONE);
        Check.due("the other one is taken out", y.bend(0, 2), 0);
        Check.due("now the end is free", y.bend(0, 4), 1);
        takenOutAtEachEnd();
    }

    /** A bend that is taken out is out at both pipes, whichever is named first: from A of pipe 0 to B of pipe 59. */
    private static void takenOutAtEachEnd() {
        for (int pipe = 0; pipe < 60; pipe++) {
            int next = (pipe + 1) % 60;
            for (int order = 0; order < 2; order++) {
                PlantGraph atA = Check.freePipes(60);
                inAndOut(atA, pipe, next, order);
                takesBends(atA, pipe, pipe + 10, 2);
                takesBends(atA, next, pipe + 20, 2);

                PlantGraph atB = Check.freePipes(60);
                takesOne(atB, pipe, pipe + 30);
                takesOne(atB, next, pipe + 40);
                inAndOut(atB, pipe, next, order);
                takesBends(atB, pipe, pipe + 10, 1);
                takesBends(atB, next, pipe + 20, 1);
            }
        }
    }

    private static void inAndOut(PlantGraph x, int pipe, int next, int order) {
        Check.due("put in between " + pipe + " and " + next, x.bend(pipe, next), 1);
        Check.due("taken out", order == 0 ? x.bend(pipe, next) : x.bend(next, pipe), 0);
    }

    private static void takesOne(PlantGraph x, int pipe, int other) {
        Check.due("a bend at pipe " + pipe, x.bend(pipe, other % 60), 1);
    }

    /** The pipe takes just so many bends, to other pipes from this one on. */
    private static void takesBends(PlantGraph x, int pipe, int other, int bends) {
        for (int n = 0; n < bends; n++) {
            takesOne(x, pipe, other + n);
        }
        Check.due("no more at pipe " + pipe, x.bend(pipe, (other + bends) % 60), Check.NONE);
    }

    /** Two bends between the same pipes can't come to be: a second call takes the first bend out. */
    private static void ofTwo() {
        Check.sentence(SECTION, "(of two that at A of the first pipe)");
        PlantGraph x = Check.plantOf("pipe - - 1\npipe - - 1\npipe - - 1\n");
        Check.due("at A of both", x.bend(0, 1), 1);
        Check.due("no second one", x.bend(0, 1), 0);
        Check.due("at A of both again", x.bend(1, 0), 1);
        Check.due("at B of the first", x.bend(0, 2), 1);
        Check.due("that at A is taken out", x.bend(0, 1), 0);
        Check.due("that at B is still there", x.bend(0, 2), 0);
        x.bend(0, 1);
        x.bend(0, 2);
        Check.due("that at B is taken out", x.bend(0, 2), 0);
        Check.due("that at A is still there", x.bend(0, 1), 0);
    }

    private static void noPipe() {
        Check.sentence(SECTION, "NONE, refused, when one is no pipe");
        PlantGraph x = Check.plantOf(PANEL);
        for (int none : Check.outside(0, 5)) {
            Check.due("first " + none, x.bend(none, 0), Check.NONE);
            Check.due("second " + none, x.bend(0, none), Check.NONE);
            Check.due("both " + none, x.bend(none, none), Check.NONE);
        }
        Check.due("60", x.bend(60, 0), Check.NONE);
        Check.due("the last pipe is one", x.bend(5, 0), 1);
        Check.due("no pipe at all", new PlantGraph().bend(0, 1), Check.NONE);
        PlantGraph full = Check.freePipes(60);
        Check.due("60 in a full plant", full.bend(59, 60), Check.NONE);
        Check.due("60 in a full plant", full.bend(60, 59), Check.NONE);
    }

    private static void bothAreOne() {
        Check.sentence(SECTION, "both are one");
        PlantGraph x = Check.plantOf(PANEL);
        for (int pipe = 0; pipe < 6; pipe++) {
            Check.due("pipe " + pipe, x.bend(pipe, pipe), Check.NONE);
        }
        x.bend(2, 5);
        Check.due("a pipe with a bend", x.bend(2, 2), Check.NONE);
        Check.due("no end was taken", x.bend(2, 0), 1);
    }

    private static void noFreeEnd() {
        Check.sentence(SECTION, "or one has no free end without a bend.");
        PlantGraph x = Check.plantOf(PANEL);
        Check.due("the second has no free end", x.bend(0, 1), Check.NONE);
        Check.due("the first has no free end", x.bend(1, 0), Check.NONE);
        Check.due("the refused one took no end", x.bend(0, 3), 1);
        Check.due("the free end of the first has a bend", x.bend(0, 4), Check.NONE);
        Check.due("the free end of the second has a bend", x.bend(4, 3), Check.NONE);
        Check.due("two free ends, none has a bend", x.bend(2, 4), 1);
        Check.due("two free ends, one has a bend", x.bend(5, 2), 1);
        x.pipe(-1, -1, 1);
        Check.due("two free ends, both have bends", x.bend(2, 6), Check.NONE);
        Check.due("two free ends, both have bends", x.bend(6, 2), Check.NONE);
        Check.due("one is taken out", x.bend(2, 4), 0);
        Check.due("now it has one again", x.bend(6, 2), 1);
    }
}
