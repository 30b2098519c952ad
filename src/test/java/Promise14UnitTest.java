/** Promise 14: unit. */
final class Promise14UnitTest {
    private static final String SECTION = "Promise 14: unit";

    public static void main(String[] args) {
        behindTheText();
        anotherOne();
        full();
        Check.end("Promise14UnitTest");
    }

    private static void behindTheText() {
        Check.sentence(SECTION, "A byte (1 .. 127) comes behind the text: true.");
        for (int u = 1; u <= 127; u++) {
            PlantGraph x = new PlantGraph();
            Check.due("unit " + u, x.unit(u), true);
            boolean begins = u == 't' || u == 'p' || u == 'v';
            Check.due("it is the text's first byte: " + u, x.read(), begins ? -2 : -1);
            Check.give(x, "pump");
            Check.due("unit " + u, x.unit(u), true);
            Check.due("it is the text's last byte: " + u, x.read(), u == 10 ? 1 : -5);
        }
        PlantGraph y = new PlantGraph();
        Check.give(y, "tank 12\n");
        Check.due("bytes stand in their order", y.read(), 1);
        Check.due("the text", Check.written(y), "tank 12\n");
        Check.give(y, "pu");
        y.pump();
        Check.give(y, "mp\n");
        Check.due("other calls leave the text", y.read(), 1);
    }

    private static void anotherOne() {
        Check.sentence(SECTION, "False, refused, for another one");
        PlantGraph x = new PlantGraph();
        Check.give(x, "pum");
        for (int u : Check.outside(1, 127)) {
            Check.due("unit " + u, x.unit(u), false);
        }
        int[] cutToBytes = {256 + 'p', 'p' - 256, (1 << 16) + 'p', 255, 256};
        for (int u : cutToBytes) {
            Check.due("unit " + u, x.unit(u), false);
        }
        Check.give(x, "p\n");
        Check.due("refused ones are not in the text", x.read(), 1);
    }

    /** No run of 512 calls comes so far, but what is promised of 2,000 bytes holds all the same. */
    private static void full() {
        Check.sentence(SECTION, "or when there are 2,000.");
        PlantGraph x = new PlantGraph();
        Check.give(x, "pipe - - 1\n".repeat(60) + "tank 12\n".repeat(40) + "pump\n".repeat(203) + "pum");
        Check.due("byte 1,999", x.unit('p'), true);
        Check.due("byte 2,000", x.unit('\n'), true);
        Check.due("one more", x.unit('x'), false);
        Check.due("another one", x.unit(0), false);
        Check.due("and again", x.unit('t'), false);
        Check.due("too many things are found in it", x.read(), -1 - (660 + 320 + 4));
        Check.due("the text is empty then", x.unit('x'), true);
        Check.due("the text is empty then", x.read(), -1);

        PlantGraph y = new PlantGraph();
        Check.give(y, "pump\n".repeat(40) + "pipe - - 1\n".repeat(60));
        for (int n = 860; n < 2000; n++) {
            Check.due("byte " + n, y.unit('t'), true);
        }
        Check.due("one more", y.unit('t'), false);
        Check.due("a full text's wrong byte", y.read(), -1 - 861);
    }
}
