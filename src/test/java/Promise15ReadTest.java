/** Promise 15: read. */
final class Promise15ReadTest {
    private static final String SECTION = "Promise 15: read";
    private static final String FIRST = "tank 5\npump\nvalve 6\n";
    private static final String PANEL =
            "tank 5\ntank 5\nvalve 0\npipe 0 2 1\npipe 2 1 1\npipe 0 - 1\npipe - 1 1\n";

    public static void main(String[] args) {
        howManyThings();
        allAsAtFirst();
        cantGoOn();
        moreMustCome();
        refusedNumbers();
        tooMany();
        thePlantStays();
        Check.end("Promise15ReadTest");
    }

    private static void right(String text, int things) {
        PlantGraph x = Check.plantOf(FIRST);
        Check.due("read '" + text + "'", Check.readText(x, text), things);
        Check.due("the text is empty then", x.read(), 0);
        Check.due("and so is the plant that is read from it", x.write(0), Check.NONE);
    }

    private static void wrong(String text, int place) {
        PlantGraph x = Check.plantOf(FIRST);
        Check.due("read '" + text + "'", Check.readText(x, text), -1 - place);
        Check.due("the plant stays at '" + text + "'", Check.written(x), FIRST);
        Check.due("the text is empty then", x.read(), 0);
    }

    private static void howManyThings() {
        Check.sentence(SECTION, "The text is read, and is empty then: how many things there are");
        right("", 0);
        right("tank 1\n", 1);
        right("tank 100000\npump\nvalve 0\nvalve 8\n", 4);
        right("pipe - - 1\n", 0);
        right("pipe - - 200\ntank 3\npipe 0 0 10\npump\npipe 1 0 9\npipe 1 - 8\n", 2);
        right("pump\n".repeat(39), 39);
        right("pump\n".repeat(40), 40);
    }

    private static void allAsAtFirst() {
        Check.sentence(SECTION, "the plant is the text's, all as at first.");
        PlantGraph x = Check.plantOf(PANEL);
        for (int n = 0; n < 3; n++) {
            Check.due("no bend", x.move(0, 1, 1), -1);
            x.position(2, 1);
            x.sensor(2, 0);
            x.fill(0, 6, 5);
            x.fill(1, 6, 5);
            Check.due("the pipes are empty", x.move(0, 1, 9), 2);
            Check.due("a bend", x.bend(2, 3), 1);
            Check.due("read", Check.readText(x, PANEL), 3);
            Check.due("the text's things and pipes", Check.written(x), PANEL);
            Check.due("no sensor", x.unsure(2), false);
            Check.due("no liquid", Check.contents(x), "0 0 0 0");
            Check.due("position 0", Check.tanksFrom(x, 0), "");
            Check.due("an empty tank", Check.fillUp(x, 0), 5);
            Check.due("an empty tank", Check.fillUp(x, 1), 5);
            Check.due("no port is left", x.pipe(2, -1, 1), Check.NONE);
            Check.due("read", Check.readText(x, "valve 0\npipe 0 - 2\n"), 1);
            Check.due("the ports are those of the text", x.pipe(0, -1, 2), 1);
            Check.due("read", Check.readText(x, PANEL), 3);
        }
        Check.due("an empty text", x.read(), 0);
        Check.due("an empty plant", x.tank(1), 0);
        Check.due("an empty plant", x.pipe(-1, -1, 1), 0);
    }

    private static void cantGoOn() {
        Check.sentence(SECTION, "When it is wrong: -1 minus the place, from 0, of the first byte with which it can't go on "
                + "as a text whose lines are taken");
        String[] last = {"x", " ", "\n", "-", "0", "T", "tx", "tax", "tanx", "tan ", "tank\n", "tankx", "tank\t",
            "v ", "valv\n", "valve\n", "valve-", "px", "pp", "p\n", "puu", "pux", "pump ", "pumpx", "pump0", "pix", "pim",
            "pipe\n", "pipe0", "tank -", "tank \n", "tank 5x", "tank 5\r", "valve -", "pipe x", "pipe -1", "pipe --",
            "pipe 0-", "pipe -\n", "pipe 0\n", "pipe 0 x", "pipe - \n", "pipe - - -", "pipe - -\n", "pipe - - \n",
            "tank 1\n\n", "tank 1\n ", "tank +", "tank 1.", "pipe - -1"};
        for (String text : last) {
            int place = text.length() - 1;
            wrong(text, place);
            wrong(text + "\n", place);
            wrong(text + "tank 0\n", place);
            wrong("pump\n" + text, place + 5);
        }
        wrong("tank 0\nx", 6);
        wrong("tank 1\nxank 0\n", 7);
        String lines = "pump\n".repeat(40);
        wrong(lines + "valve x\n", lines.length() + 6);
        wrong(lines + "q", lines.length());
    }

    private static void moreMustCome() {
        Check.sentence(SECTION, "the end of the text, when more must come");
        String[] cutOff = {"t", "ta", "tan", "tank", "tank ", "tank 5", "tank 1234567", "v", "va", "val", "valv", "valve",
            "valve ", "valve 3", "p", "pu", "pum", "pump", "pi", "pip", "pipe", "pipe ", "pipe -", "pipe - ", "pipe - -",
            "pipe - - ", "pipe - - 7", "tank 0", "tank 9999999", "valve 9", "pipe 77 88 999", "pipe 0 0 201"};
        for (String text : cutOff) {
            wrong(text, text.length());
            wrong(FIRST + text, FIRST.length() + text.length());
        }
        String lines = "pump\n".repeat(40);
        wrong(lines + "pump", lines.length() + 4);
    }

    /** Wrong in its last byte, with lines before it and behind it, too. */
    private static void wrongLine(String line) {
        wrong(line, line.length() - 1);
        wrong(line + "x", line.length() - 1);
        wrong("pipe - - 1\n" + line + "tank 0\n", line.length() + 10);
    }

    private static void refusedNumbers() {
        Check.sentence(SECTION, "for numbers of things, kinds, litres that are refused");
        String[] lines = {"tank 0\n", "tank 100001\n", "tank 9999999\n", "valve 9\n", "valve 10\n", "valve 9999999\n",
            "pipe 0 - 1\n", "pipe - 0 1\n", "pipe 9999999 - 1\n", "pipe - 9999999 1\n", "pipe - - 0\n", "pipe - - 201\n",
            "pipe - - 9999999\n", "pipe 0 0 0\n"};
        for (String line : lines) {
            wrongLine(line);
        }
        right("tank 1\ntank 100000\nvalve 0\nvalve 8\npipe 0 3 1\npipe 3 0 200\n", 4);
        wrong("tank 1\npipe 0 1 1\n", 17);
        wrong("tank 1\npipe 1 0 1\n", 17);
        right("tank 1\ntank 1\npipe 0 1 1\n", 2);
        wrong("tank 1\npipe 0 1 1\ntank 1\n", 17);
        wrong("pipe 0 - 1\ntank 1\n", 10);
        wrong("pump\n".repeat(39) + "pipe 39 - 1\n", 195 + 11);
        right("pump\n".repeat(40) + "pipe 39 - 1\n", 40);
        wrong("pump\n".repeat(40) + "pipe 40 - 1\n", 200 + 11);
    }

    private static void tooMany() {
        Check.sentence(SECTION, "or too many things, pipes, ports: the line's last byte, 10");
        String things = "pump\n".repeat(40);
        right(things, 40);
        wrong(things + "pump\n", 204);
        wrong(things + "tank 1\n", 206);
        wrong(things + "valve 1\n", 207);
        wrong(things + "pump\npump\n", 204);
        right(things + "pipe 0 1 1\n", 40);
        right("pipe - - 1\n".repeat(60), 0);
        wrong("pipe - - 1\n".repeat(61), 670);
        wrong("tank 1\n" + "pipe 0 0 20\n".repeat(61) + "t", 738);
        right("pump\npipe 0 - 1\npipe - 0 1\n", 1);
        wrong("pump\npipe 0 - 1\npipe - 0 1\npipe 0 - 1\n", 37);
        wrong("pump\npipe 0 0 1\npipe 0 - 1\n", 26);
        right("valve 5\npipe 0 - 1\n", 1);
        wrong("valve 5\npipe 0 0 1\n", 18);
        right("valve 2\npipe 0 0 1\npipe 0 - 1\n", 1);
        wrong("valve 2\npipe 0 0 1\npipe 0 0 1\n", 29);
    }

    private static void thePlantStays() {
        Check.sentence(SECTION, "the plant stays.");
        String[] wrongTexts = {"x", "pump", "tank 0\n", "tank 9\ntank 8\npipe 0 1 9\npump\npipe 2 2 2\npipe 2 1 5\n",
            "valve 8\ntank 2\ntank 2\nx"};
        for (String text : wrongTexts) {
            PlantGraph x = Check.plantOf(PANEL);
            x.position(2, 1);
            x.sensor(2, 3);
            x.bend(2, 3);
            x.fill(0, 6, 1);
            x.move(0, 1, 1);
            x.fill(0, 7, 1);
            Check.due("a wrong text", Check.readText(x, text) < 0, true);
            Check.due("the things and pipes", Check.written(x), PANEL);
            Check.due("the pipes", Check.contents(x), "6 0 0 0");
            Check.due("the sensor", x.unsure(2), true);
            Check.due("the tank and the position", x.move(0, 1, 1), 1);
            Check.due("the pipes", Check.contents(x), "7 6 0 0");
            Check.due("the bend", x.bend(2, 3), 0);
            Check.due("the ports", x.pipe(2, -1, 1), Check.NONE);
            Check.due("the text is empty then", x.read(), 0);
        }
    }
}
