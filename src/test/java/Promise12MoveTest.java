/** Promise 12: move. */
final class Promise12MoveTest {
    private static final String SECTION = "Promise 12: move";

    public static void main(String[] args) {
        oneByOne();
        pushedOn();
        whatLeaves();
        theFirstHasNone();
        doesNotFit();
        howMany();
        noTank();
        bothAreOne();
        otherNumbers();
        noWay();
        longestWay();
        Check.end("Promise12MoveTest");
    }

    private static void oneByOne() {
        Check.sentence(SECTION, "Litres (1 to 100,000) are moved from a tank to another one on the way, one by one");
        long[] litres = {1, 2, 99999, 100000};
        for (long l : litres) {
            PlantGraph x = Check.plantOf("tank 100000\ntank 100000\npipe 0 1 1\n");
            x.fill(0, 3, 100000);
            Check.due("move " + l, x.move(0, 1, l), l);
            Check.due("so many left the first tank", Check.fillUp(x, 0), l);
            Check.due("one of them is in the pipe", Check.fillUp(x, 1), 100000 - (l - 1));
        }
        PlantGraph all = Check.plantOf("tank 90\ntank 90\npipe 0 1 7\n");
        PlantGraph each = Check.plantOf("tank 90\ntank 90\npipe 0 1 7\n");
        all.fill(0, 3, 90);
        each.fill(0, 3, 90);
        Check.due("20 at once", all.move(0, 1, 20), 20);
        for (int n = 0; n < 20; n++) {
            Check.due("one of 20", each.move(0, 1, 1), 1);
        }
        Check.due("the pipes are alike", Check.contents(all), Check.contents(each));
        Check.due("the first tanks are alike", Check.fillUp(all, 0), Check.fillUp(each, 0));
        Check.due("the other tanks are alike", Check.fillUp(all, 1), Check.fillUp(each, 1));
    }

    private static void pushedOn() {
        Check.sentence(SECTION, "a litre of the first tank's liquid comes into the first pipe where the way begins, "
                + "and pushes what is in the way's pipes on by one litre");
        PlantGraph x = Check.plantOf("tank 50\ntank 50\nvalve 3\npipe 0 2 2\npipe 2 1 3\n");
        x.fill(0, 1, 2);
        String[] first = {"15 0", "1 0"};
        for (String due : first) {
            x.move(0, 1, 1);
            Check.due("a litre of 1", Check.contents(x), due);
        }
        x.fill(0, 2, 5);
        String[] then = {"15 15", "2 15", "2 15", "2 15", "2 2"};
        for (String due : then) {
            x.move(0, 1, 1);
            Check.due("a litre of 2", Check.contents(x), due);
        }
        x.fill(0, 3, 1);
        x.fill(0, 4, 1);
        x.move(0, 1, 2);
        Check.due("mixed litres of a mixed tank", Check.contents(x), "15 2");
        x.fill(0, 5, 2);
        x.move(0, 1, 2);
        Check.due("they are pushed on", Check.contents(x), "5 15");

        // A pipe that the way takes from B to A: what came in last at B leaves first at B.
        PlantGraph y = Check.plantOf("tank 9\ntank 9\npipe 1 0 3\n");
        y.fill(0, 5, 1);
        y.fill(1, 6, 3);
        y.move(0, 1, 1);
        Check.due("at B", y.content(0), 15);
        Check.due("from A it is pushed out at B at once", y.move(1, 0, 1), 1);
        Check.due("it came back", Check.fillUp(y, 0), 8);
        y.move(1, 0, 2);
        Check.due("three litres from A", y.content(0), 6);
        backAndForthInEachPipe();
    }

    private static void backAndForthInEachPipe() {
        for (int pipe = 0; pipe < 60; pipe++) {
            PlantGraph x = Check.freePipes(pipe);
            x.tank(9);
            x.tank(9);
            Check.due("pipe", x.pipe(0, 1, 3), pipe);
            x.fill(0, 5, 1);
            x.fill(1, 6, 9);
            Check.due("one litre at A of pipe " + pipe, x.move(0, 1, 1), 1);
            Check.due("it leaves at A at once", x.move(1, 0, 1), 1);
            Check.due("it came back", Check.fillUp(x, 0), 8);
            Check.due("two more at B", x.move(1, 0, 9), 2);
            Check.due("all is of B's tank", x.content(pipe), 6);
        }
    }

    private static void whatLeaves() {
        Check.sentence(SECTION, "what leaves the last pipe comes to the other tank (nothing, when it is empty).");
        PlantGraph x = Check.plantOf("tank 9\ntank 9\npipe 0 1 3\n");
        x.fill(0, 1, 9);
        Check.due("three empty litres leave", x.move(0, 1, 3), 3);
        Check.due("one of 1 leaves", x.move(0, 1, 1), 1);
        Check.due("one came", Check.fillUp(x, 1), 8);
        PlantGraph y = Check.plantOf("tank 9\ntank 9\npipe 0 1 3\n");
        y.fill(0, 1, 9);
        y.move(0, 1, 3);
        Check.due("nothing came", Check.fillUp(y, 1), 9);

        PlantGraph full = Check.plantOf("tank 9\ntank 2\npipe 0 1 4\n");
        full.fill(0, 1, 9);
        full.fill(1, 2, 2);
        Check.due("empty litres leave into a full tank, too", full.move(0, 1, 9), 4);
        Check.due("the pipe", full.content(0), 1);
        Check.due("five are left", Check.fillUp(full, 0), 4);

        PlantGraph z = Check.plantOf("tank 9\ntank 9\ntank 9\npipe 0 1 1\npipe 1 2 1\n");
        z.fill(0, 1, 3);
        z.fill(1, 2, 1);
        z.move(0, 1, 1);
        z.move(1, 2, 1);
        Check.due("an empty litre that leaves mixes nothing", z.content(1), 2);
        z.move(0, 1, 1);
        z.move(1, 2, 1);
        Check.due("what leaves is of the liquid that it was", z.content(1), 1);
    }

    private static void theFirstHasNone() {
        Check.sentence(SECTION, "It ends before a litre when the first tank has none");
        PlantGraph x = Check.plantOf("tank 90\ntank 90\npipe 0 1 2\n");
        Check.due("an empty tank", x.move(0, 1, 1), 0);
        Check.due("an empty tank", x.move(0, 1, 100000), 0);
        Check.due("nothing was pushed", x.content(0), 0);
        x.fill(0, 1, 3);
        Check.due("one less than there are", x.move(0, 1, 2), 2);
        Check.due("as many as there are", x.move(0, 1, 1), 1);
        Check.due("one more than there are", x.move(0, 1, 1), 0);
        x.fill(0, 2, 5);
        Check.due("many more than there are", x.move(0, 1, 100000), 5);
        Check.due("the pipe", x.content(0), 2);
        x.fill(0, 3, 5);
        Check.due("one more than there are", x.move(0, 1, 6), 5);
    }

    private static void doesNotFit() {
        Check.sentence(SECTION, "or when what would come does not fit.");
        PlantGraph x = Check.plantOf("tank 90\ntank 4\npipe 0 1 2\n");
        x.fill(0, 1, 80);
        Check.due("two into the pipe, three into the tank", x.move(0, 1, 5), 5);
        Check.due("one more fits", x.move(0, 1, 2), 1);
        Check.due("now it is full", x.move(0, 1, 1), 0);
        Check.due("once more", x.move(0, 1, 100000), 0);
        Check.due("74 are left", Check.fillUp(x, 0), 16);

        PlantGraph y = Check.plantOf("tank 90\ntank 4\npipe 0 1 2\n");
        y.fill(0, 1, 80);
        Check.due("all at once", y.move(0, 1, 80), 6);

        // Empty litres behind a full one: the full one waits, and so do they.
        PlantGraph z = Check.plantOf("tank 9\ntank 1\npipe 0 1 3\n");
        z.fill(1, 5, 1);
        z.move(1, 0, 1);
        z.fill(0, 2, 9);
        Check.due("the litre at B comes back, then two empty ones leave", z.move(0, 1, 9), 3);
        Check.due("the pipe", z.content(0), 2);
        PlantGraph w = Check.plantOf("tank 9\ntank 1\npipe 0 1 3\n");
        w.fill(1, 5, 1);
        w.move(1, 0, 1);
        w.fill(1, 6, 1);
        w.fill(0, 2, 9);
        Check.due("the litre at B does not fit", w.move(0, 1, 9), 0);
        Check.due("the pipe", w.content(0), 15);
        Check.due("the first tank keeps its litres", w.fill(0, 2, 1), false);
    }

    private static void howMany() {
        Check.sentence(SECTION, "How many litres were moved");
        PlantGraph x = Check.plantOf("tank 100000\ntank 100000\npipe 0 1 200\n");
        Check.due("none", x.move(0, 1, 7), 0);
        x.fill(0, 1, 100000);
        Check.due("all that were asked", x.move(0, 1, 7), 7);
        Check.due("all that there were", x.move(0, 1, 100000), 99993);
        Check.due("200 are in the pipe", Check.fillUp(x, 1), 200);
        Check.due("the way back: 200 of the pipe and all but 200 of the tank come", x.move(1, 0, 100000), 100000);
        Check.due("the first tank is full again", x.fill(0, 1, 1), false);
        Check.due("and all of it goes once more", x.move(0, 1, 100000), 100000);
    }

    private static PlantGraph forRefusals() {
        PlantGraph x = Check.plantOf("tank 9\ntank 9\npump\nvalve 0\ntank 9\npipe 0 1 1\n");
        x.fill(0, 1, 9);
        return x;
    }

    private static void nothingMoved(PlantGraph x) {
        Check.due("nothing was moved", x.content(0), 0);
        Check.due("all as before", x.move(0, 1, 100000), 9);
    }

    private static void noTank() {
        Check.sentence(SECTION, "-1, refused, when one is no tank");
        PlantGraph x = forRefusals();
        for (int thing : Check.outside(0, 4)) {
            Check.due("from thing " + thing, x.move(thing, 1, 1), -1);
            Check.due("to thing " + thing, x.move(0, thing, 1), -1);
        }
        for (int thing = 2; thing <= 3; thing++) {
            Check.due("from a pump or valve", x.move(thing, 1, 1), -1);
            Check.due("to a pump or valve", x.move(0, thing, 1), -1);
        }
        nothingMoved(x);
        PlantGraph y = Check.plantOf("pump\ntank 5\npipe 0 1 1\n");
        Check.due("a pump at the beginning of a pipe", y.move(0, 1, 1), -1);
        Check.due("a pump at the end of a pipe", y.move(1, 0, 1), -1);
    }

    private static void bothAreOne() {
        Check.sentence(SECTION, "both are one");
        PlantGraph x = forRefusals();
        Check.due("both are one", x.move(0, 0, 1), -1);
        nothingMoved(x);
        PlantGraph y = Check.plantOf("tank 9\npipe 0 0 2\n");
        y.fill(0, 1, 9);
        Check.due("a pipe from a tank to itself", y.move(0, 0, 1), -1);
        Check.due("is empty still", y.content(0), 0);
    }

    private static void otherNumbers() {
        Check.sentence(SECTION, "for other numbers");
        PlantGraph x = forRefusals();
        for (long litres : Check.outside(1L, 100000L)) {
            Check.due("litres " + litres, x.move(0, 1, litres), -1);
        }
        nothingMoved(x);
    }

    private static void noWay() {
        Check.sentence(SECTION, "or when there is no way.");
        PlantGraph x = forRefusals();
        Check.due("no pipe at the other tank", x.move(0, 4, 1), -1);
        Check.due("no pipe at the first tank", x.move(4, 0, 1), -1);
        nothingMoved(x);
        PlantGraph y = Check.plantOf("tank 9\ntank 9\nvalve 0\npipe 0 2 1\npipe 2 1 1\n");
        y.fill(0, 1, 9);
        Check.due("a valve that passes nothing", y.move(0, 1, 1), -1);
        y.position(2, 1);
        Check.due("now it does", y.move(0, 1, 1), 1);
        y.position(2, 2);
        Check.due("and now it does not", y.move(0, 1, 1), -1);
        PlantGraph empty = Check.plantOf("tank 9\ntank 9\n");
        Check.due("empty tanks without a way", empty.move(0, 1, 1), -1);
    }

    /** All 60 pipes with 200 litres each: the most that one move pushes. */
    private static void longestWay() {
        Check.sentence(SECTION, "pushes what is in the way's pipes on by one litre");
        PlantGraph x = new PlantGraph();
        x.tank(100000);
        x.tank(100000);
        x.pipe(0, -1, 200);
        for (int n = 1; n < 59; n++) {
            x.pipe(-1, -1, 200);
        }
        x.pipe(1, -1, 200);
        for (int n = 1; n < 60; n++) {
            Check.due("bend " + n, x.bend(n - 1, n), 1);
        }
        x.fill(0, 3, 100000);
        Check.due("12,000 litres are in the way", x.move(0, 1, 11999), 11999);
        Check.due("all but the last", x.content(58), 3);
        Check.due("the last", x.content(59), 15);
        Check.due("one more", x.move(0, 1, 1), 1);
        Check.due("the last", x.content(59), 3);
        Check.due("none came", x.fill(1, 4, 100000), true);
        Check.due("the other tank is full", x.move(0, 1, 100000), 0);
        Check.due("the way back", x.move(1, 0, 100000), 12000);
        Check.due("the first", x.content(0), 4);
        Check.due("again", x.move(1, 0, 100000), 0);
        Check.due("and back", x.move(0, 1, 100000), 12000);
    }
}
