/** Terms: texts. */
final class TermsTextsTest {
    private static final String SECTION = "Terms";

    public static void main(String[] args) {
        linesOfWords();
        tank();
        pump();
        valve();
        pipe();
        atMostSevenDigits();
        noFirst0();
        Check.end("TermsTextsTest");
    }

    private static void read(String text, int due) {
        Check.due("read '" + text + "'", Check.readText(new PlantGraph(), text), due);
    }

    /** Each wrong text is wrong in its last byte, whatever comes behind it. */
    private static void wrongAtLast(String... texts) {
        for (String text : texts) {
            read(text, -text.length());
            read(text + "\n", -text.length());
            read("tank 7\n" + text + "1\n", -7 - text.length());
        }
    }

    private static void linesOfWords() {
        Check.sentence(SECTION, "TEXTS: lines of words with one blank between, each ended by a byte 10");
        read("", 0);
        read("tank 5\nvalve 1\n", 2);
        wrongAtLast("tank  ", "valve  ", "pipe  ", "pipe -  ", "pipe - -  ", "tank 5 ", "valve 1 ", "pump ", "pipe - - 1 ");
        wrongAtLast(" ", "\n", "tank 5\n\n", "tank 5\n ", "tank\t", "pipe -\t", "tank 5\r", "tank\n", "pipe -\n", "pipe - -\n");
        wrongAtLast("tank5", "valve1", "pipe-", "pipe --", "pipe - --");
        read("tank 5", -7);
        read("pump", -5);
        read("pump\npump", -10);
    }

    private static void tank() {
        Check.sentence(SECTION, "tank and its litres");
        read("tank 1\n", 1);
        read("tank 100000\n", 1);
        read("tank 0\n", -7);
        read("tank 100001\n", -12);
        wrongAtLast("tank -", "tank x", "T", "tanks", "tank 1-");
    }

    private static void pump() {
        Check.sentence(SECTION, "; pump;");
        read("pump\n", 1);
        wrongAtLast("pumps", "pump0", "P", "puml", "pum\n");
    }

    private static void valve() {
        Check.sentence(SECTION, "valve and its kind");
        for (int kind = 0; kind <= 8; kind++) {
            PlantGraph x = Check.plantOf("valve " + kind + "\n");
            Check.due("kind " + kind, Check.written(x), "valve " + kind + "\n");
        }
        read("valve 9\n", -8);
        read("valve 10\n", -9);
        wrongAtLast("valve -", "V", "valves", "valve x");
    }

    private static void pipe() {
        Check.sentence(SECTION, "pipe, two ends (numbers of things, or - for a free one) and its litres.");
        String things = "tank 5\ntank 5\n";
        String[] pipes = {"pipe 0 1 1\n", "pipe 1 0 200\n", "pipe - 0 3\n", "pipe 1 - 3\n", "pipe - - 3\n", "pipe 0 0 3\n"};
        for (String pipe : pipes) {
            PlantGraph x = Check.plantOf(things + pipe);
            Check.due("the text", Check.written(x), things + pipe);
        }
        read("pipe - - 1\n", 0);
        read("pipe - - 200\n", 0);
        read("pipe - - 0\n", -11);
        read("pipe - - 201\n", -13);
        read(things + "pipe 2 - 1\n", -14 - 11);
        read(things + "pipe - 2 1\n", -14 - 11);
        wrongAtLast("pipe x", "pipe -0", "pipe - x", "pipe - - -", "pipe - - x", "pI", "pipes");
    }

    private static void atMostSevenDigits() {
        Check.sentence(SECTION, "Numbers are digits, at most seven");
        read("tank 123456\n", -12);
        read("tank 1234567\n", -13);
        read("valve 1234567\n", -14);
        read("pipe 1234567 - 1\n", -17);
        read("pipe - 1234567 1\n", -17);
        read("pipe - - 1234567\n", -17);
        read("tank 1234567", -13);
        wrongAtLast("tank 12345678", "tank 10000000", "valve 12345678", "pipe 12345678", "pipe - 12345678", "pipe - - 12345678",
                "tank 99999999");
        read("tank 1234567890123456789012345678901234567890\n", -13);
        read("tank 4294967297\n", -13);
        wrongAtLast("tank +", "tank 1.", "tank 1e", "tank 1,", "tank /", "tank :", "tank 1/", "tank 1:", "valve a");
    }

    private static void noFirst0() {
        Check.sentence(SECTION, "the first no 0 unless it is alone.");
        read("valve 0\n", 1);
        read("tank 5\npipe 0 0 1\n", 1);
        read("tank 10\n", 1);
        read("tank 100\n", 1);
        wrongAtLast("valve 00", "valve 01", "tank 00", "tank 05", "pipe 00", "pipe 01", "pipe - 00",
                "pipe - 01", "pipe - - 00", "pipe - - 02");
        read("tank 0000001\n", -7);
        read("pipe - - 0200\n", -11);
        read("tank 0\n", -7);
        read("tank 0", -7);
    }
}
