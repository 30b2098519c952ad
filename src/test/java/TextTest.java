/** Promises 14, 15 and 16: unit, read and write. */
final class TextTest {
    private static final String FIRST = "tank 5\npump\nvalve 6\n";

    public static void main(String[] args) {
        units();
        rightTexts();
        wrongWords();
        wrongNumbers();
        refusedLines();
        tooMany();
        thePlantStays();
        allAsAtFirst();
        writing();
        Check.end("TextTest");
    }

    private static void units() {
        PlantGraph x = new PlantGraph();
        int[] refused = {0, -1, 128, 255, 256 + 't', Integer.MIN_VALUE, Integer.MAX_VALUE};
        for (int u : refused) {
            Check.due("unit " + u, x.unit(u), false);
        }
        Check.due("nothing refused is in the text", x.read(), 0);
        for (int u = 1; u <= 127; u++) {
            Check.due("unit " + u, x.unit(u), true);
            if (u != 't' && u != 'p' && u != 'v') {
                Check.due("no line begins with " + u, x.read(), -1);
            } else {
                Check.due("more must come behind " + u, x.read(), -2);
            }
        }
        for (int n = 0; n < 2000; n++) {
            Check.due("byte " + n, x.unit('t'), true);
        }
        Check.due("there are 2,000", x.unit('t'), false);
        Check.due("there are 2,000", x.unit(0), false);
        Check.due("read", x.read(), -2);
        Check.due("the text is empty then", x.unit('x'), true);
        Check.due("read", x.read(), -1);
        Check.due("the text is empty then", x.read(), 0);
    }

    private static void right(String text, int things) {
        PlantGraph x = new PlantGraph();
        Check.due("read '" + text + "'", Check.readText(x, text), things);
        Check.due("the text is empty then", x.read(), 0);
        Check.due("and the plant, too", x.write(0), Check.NONE);
    }

    private static void wrong(String text, int place) {
        PlantGraph x = Check.plantOf(FIRST);
        Check.due("read '" + text + "'", Check.readText(x, text), -1 - place);
        Check.due("the plant stays at '" + text + "'", Check.written(x), FIRST);
        Check.due("the text is empty then", x.read(), 0);
    }

    /** The last byte of the text is the first wrong one. */
    private static void wrongAtLast(String text) {
        wrong(text, text.length() - 1);
        wrong(text + "\n", text.length() - 1);
        wrong("pump\n" + text, text.length() + 4);
    }

    private static void wrongAtEnd(String text) {
        wrong(text, text.length());
        wrong(FIRST + text, FIRST.length() + text.length());
    }

    private static void rightTexts() {
        right("", 0);
        right("tank 1\n", 1);
        right("tank 100000\npump\nvalve 0\nvalve 8\n", 4);
        right("pipe - - 1\n", 0);
        right("pipe - - 200\ntank 3\npipe 0 0 10\npump\npipe 1 0 9\npipe 1 - 8\n", 2);
    }

    private static void wrongWords() {
        String[] last = {"x", " ", "\n", "-", "0", "T", "tx", "tax", "tanx", "tan ", "tank\n", "tankx", "tank\t",
            "v ", "valv\n", "valve\n", "valve-", "px", "pp", "p\n", "puu", "pux", "pump ", "pumpx", "pump0", "pix", "pim",
            "pipe\n", "pipe0", "tank  ", "tank -", "tank \n", "tank 5 ", "tank 5x", "tank 5\r", "valve  ", "valve -",
            "valve 1 ", "pipe  ", "pipe x", "pipe -1", "pipe --", "pipe 0-", "pipe -\n", "pipe 0\n", "pipe 0  ",
            "pipe 0 x", "pipe - \n", "pipe - - -", "pipe - -\n", "pipe - -  ", "pipe - - \n", "pipe - - 1 ", "tank 1\n\n",
            "tank 1\n ", "tank +", "tank 1.", "pipe - -1"};
        for (String text : last) {
            wrongAtLast(text);
        }
        String[] cutOff = {"t", "ta", "tan", "tank", "tank ", "tank 5", "tank 1234567", "v", "va", "val", "valv", "valve",
            "valve ", "valve 3", "p", "pu", "pum", "pump", "pi", "pip", "pipe", "pipe ", "pipe -", "pipe - ", "pipe - -",
            "pipe - - ", "pipe - - 7", "tank 0", "tank 9999999", "valve 9", "pipe 77 88 999"};
        for (String text : cutOff) {
            wrongAtEnd(text);
        }
    }

    private static void wrongNumbers() {
        String[] last = {"tank 00", "tank 05", "tank 12345678", "tank 10000000", "valve 00", "valve 01", "pipe 00", "pipe 01",
            "pipe 12345678", "pipe - 00", "pipe - 12345678", "pipe - - 00", "pipe - - 01", "pipe - - 12345678"};
        for (String text : last) {
            wrongAtLast(text);
        }
    }

    private static void refusedLines() {
        String[] lines = {"tank 0\n", "tank 100001\n", "tank 9999999\n", "valve 9\n", "valve 10\n", "valve 9999999\n",
            "pipe 0 - 1\n", "pipe - 0 1\n", "pipe 9999999 - 1\n", "pipe - - 0\n", "pipe - - 201\n", "pipe - - 9999999\n"};
        for (String text : lines) {
            wrong(text, text.length() - 1);
            wrong(text + "x", text.length() - 1);
            wrong("pipe - - 1\n" + text + "tank 0\n", text.length() + 10);
        }
        wrong("tank 1\npipe 0 1 1\ntank 1\n", 17);
        wrong("tank 1\npipe 1 0 1\ntank 1\n", 17);
        wrong("pump\npipe 0 0 1\npipe 0 - 1\n", 26);
        wrong("valve 5\npipe 0 0 1\n", 18);
        wrong("valve 2\npipe 0 0 1\npipe 0 0 1\n", 29);
        right("valve 2\npipe 0 0 1\npipe 0 - 1\n", 1);
    }

    private static void tooMany() {
        right("pump\n".repeat(40), 40);
        wrong("pump\n".repeat(41), 204);
        wrong("pump\n".repeat(40) + "tank 1\n", 206);
        wrong("pump\n".repeat(40) + "valve 1\n", 207);
        wrong("pump\n".repeat(40) + "valve x\n", 206);
        right("pipe - - 1\n".repeat(60), 0);
        wrong("pipe - - 1\n".repeat(61), 670);
        wrong("tank 1\n" + "pipe 0 0 20\n".repeat(61) + "t", 738);
    }

    private static void thePlantStays() {
        PlantGraph x = Check.plantOf("tank 5\ntank 5\nvalve 0\npipe 0 2 1\npipe 2 1 1\npipe 0 - 1\npipe - 1 1\n");
        x.position(2, 1);
        x.sensor(2, 3);
        x.bend(2, 3);
        x.fill(0, 6, 1);
        x.move(0, 1, 1);
        x.fill(0, 7, 1);
        Check.due("a wrong text", Check.readText(x, "tank 9\ntank 8\npipe 0 1 9\npump\npipe 2 2 2\npipe 2 1 5\n"), -52);
        Check.due("the pipe", x.content(0), 6);
        Check.due("the sensor", x.unsure(2), true);
        Check.due("the tank", x.move(0, 1, 1), 1);
        Check.due("the tank", x.content(0), 7);
        Check.due("the position", x.content(1), 6);
        Check.due("the bend", x.bend(2, 3), 0);
    }

    private static void allAsAtFirst() {
        String text = "tank 5\ntank 5\nvalve 0\npipe 0 2 1\npipe 2 1 1\npipe 0 - 1\npipe - 1 1\n";
        PlantGraph x = Check.plantOf(text);
        for (int n = 0; n < 3; n++) {
            Check.due("no bend", x.move(0, 1, 1), -1);
            x.position(2, 1);
            x.sensor(2, 0);
            x.fill(0, 6, 5);
            x.fill(1, 6, 5);
            Check.due("the pipes are empty", x.move(0, 1, 9), 2);
            Check.due("a bend", x.bend(2, 3), 1);
            Check.due("read", Check.readText(x, text), 3);
            Check.due("no sensor", x.unsure(2), false);
            Check.due("no liquid", x.content(0), 0);
            Check.due("position 0", Check.tanksFrom(x, 0), "");
            Check.due("as much as the tank takes", x.fill(0, 1, 5), true);
            Check.due("as much as the tank takes", x.fill(1, 1, 5), true);
            Check.due("no ports are left", x.pipe(2, -1, 1), Check.NONE);
            Check.due("read", Check.readText(x, "valve 0\npipe 0 - 2\n"), 1);
            Check.due("the ports are those of the text", x.pipe(0, -1, 2), 1);
            Check.due("read", Check.readText(x, text), 3);
        }
    }

    private static void writing() {
        StringBuilder text = new StringBuilder();
        for (int n = 0; n < 40; n++) {
            text.append(n < 9 ? "valve " + n : n == 9 ? "pump" : n == 10 ? "tank 100000" : "tank " + (n * 1001 - 11000));
            text.append('\n');
        }
        for (int n = 0; n < 60; n++) {
            String a = n % 7 == 0 ? "-" : "" + (10 + n % 30);
            String b = n % 5 == 0 ? "-" : n < 9 ? "" + n : "" + (39 - n % 29);
            text.append("pipe ").append(a).append(' ').append(b).append(' ').append(n == 59 ? 200 : n + 1).append('\n');
        }
        PlantGraph x = Check.plantOf(text.toString());
        Check.due("what was read is written", Check.written(x), text.toString());
        Check.due("behind the text", x.write(text.length()), Check.NONE);
        Check.due("the last byte", x.write(text.length() - 1), 10);
        int[] beyond = {-1, Integer.MIN_VALUE, Integer.MAX_VALUE};
        for (int i : beyond) {
            Check.due("write " + i, x.write(i), Check.NONE);
        }
        Check.due("things come before pipes", Check.readText(x, "pipe - - 1\ntank 10\npipe 0 - 2\npump\n"), 2);
        Check.due("the text", Check.written(x), "tank 10\npump\npipe - - 1\npipe 0 - 2\n");
    }
}
