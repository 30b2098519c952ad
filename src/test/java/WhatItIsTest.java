/** What it is: an object is used for 512 calls. */
final class WhatItIsTest {
    private static final String SECTION = "What it is";
    private static final int MOST_CALLS = 512;

    public static void main(String[] args) {
        inWords();
        mostCalls();
        Check.end("WhatItIsTest");
    }

    private static void inWords() {
        Check.sentence(SECTION, "A plant of tanks, pumps, valves of nine kinds, pipes and bends at a panel: what is joined, "
                + "what is in the pipes litre by litre, sensors that disagree, texts both ways.");
        String text = "tank 9\npump\nvalve 0\ntank 9\npipe 0 1 1\npipe 1 2 1\npipe 2 - 1\npipe - 3 1\n";
        PlantGraph x = Check.plantOf(text);
        Check.due("a bend", x.bend(2, 3), 1);
        Check.due("a position", x.position(2, 1), true);
        Check.due("what is joined", Check.tanksFrom(x, 0), "3");
        x.fill(0, 5, 3);
        x.move(0, 3, 3);
        Check.due("what is in the pipes", Check.contents(x), "5 5 5 0");
        x.sensor(2, 0);
        Check.due("a sensor that disagrees", x.unsure(2), true);
        Check.due("the text back", Check.written(x), text);
    }

    /** A full plant with the longest way, and then litres back and forth up to the last call. */
    private static void mostCalls() {
        Check.sentence(SECTION, "An object is used for at most 512 calls after it has been made");
        PlantGraph x = new PlantGraph();
        int calls = 0;
        for (int n = 0; n < 40; n++) {
            Check.due("tank " + n, x.tank(100000), n);
            calls++;
        }
        for (int n = 0; n < 60; n++) {
            Check.due("pipe " + n, x.pipe(n == 0 ? 0 : -1, n == 59 ? 1 : -1, 200), n);
            calls++;
        }
        for (int n = 1; n < 60; n++) {
            Check.due("bend " + n, x.bend(n - 1, n), 1);
            calls++;
        }
        Check.due("fill", x.fill(0, 1, 100000), true);
        Check.due("fill", x.fill(1, 2, 50000), true);
        Check.due("all but one of the way's litres", x.move(0, 1, 11999), 11999);
        calls += 3;
        while (calls < MOST_CALLS - 3) {
            Check.due("back", x.move(1, 0, 100), 100);
            Check.due("and forth", x.move(0, 1, 100), 100);
            calls += 2;
        }
        Check.due("a call before the last", x.content(59), 15);
        Check.due("a call before the last", x.joined(0, 0), 1);
        calls += 2;
        while (calls < MOST_CALLS) {
            calls++;
            Check.due("call " + calls, x.write(0), 't');
        }
    }
}
