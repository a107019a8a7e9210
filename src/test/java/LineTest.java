/** The term LINE: its bytes and its end, in request lines, in headers and in the sizes of chunks. */
public final class LineTest {
    private static final String CHUNKED = Probe.GET + "chunked:yes\r\n\r\n";
    private static final String FOUR_HEADERS = Probe.GET + "a:1\r\nb:2\r\nc:3\r\nd:4\r\n";

    // Lines that have begun, in which any byte of a line may come next.
    private static final String[] BEGUN = {"", "G", "G ", "G /", "G / H1", Probe.GET, Probe.GET + "x", Probe.GET + "x:",
        Probe.GET + "x:y\r\n", Probe.GET + "x:y\r\nz: ", FOUR_HEADERS, FOUR_HEADERS + "e:"};

    public static void main(String[] args) {
        itsEnd();
        itsBytes();
        anotherByte();
        thirteenWithoutTen();
        tenWithoutThirteen();
        badGoesBeforeLong();
        badGoesBeforeBig();
        sizesOfChunks();
        Probe.end();
    }

    private static void itsEnd() {
        Probe.sentence("Term LINE", "A LINE ends with the bytes 13 and 10");
        Probe.dueOpen("no line");
        Probe.dueOpen("no line\r");
        Probe.dueRefused("no line\r\n", 400);
        Probe.dueOpen(Probe.GET + "no header\r");
        Probe.dueRefused(Probe.GET + "no header\r\n", 400);
        Probe.dueServed(Probe.GET + "x:y\r\n\r\n");
    }

    private static void itsBytes() {
        Probe.sentence("Term LINE", "the bytes of a line before these are 32 .. 126");
        for (String begun : BEGUN) {
            for (int b = 32; b <= 126; b++) {
                Probe.dueOpen(begun + (char) b);
            }
            Probe.dueRefused(begun + (char) 31, 400);
            Probe.dueRefused(begun + (char) 127, 400);
        }
        Probe p = new Probe();
        p.stub(0, 200, "{p}{qa}{hx}");
        Probe.due("the lowest and highest", p.ask("G /!~?a=!~ H1\r\nx:! ~\r\n\r\n"), "200 8\n/!~!~! ~");
    }

    private static void anotherByte() {
        Probe.sentence("Term LINE", "Within a line another byte");
        for (String begun : BEGUN) {
            for (int b = 0; b < 256; b++) {
                if (b != 13 && (b < 32 || b > 126)) {
                    Probe.dueRefused(begun + (char) b, 400);
                }
            }
        }
    }

    private static void thirteenWithoutTen() {
        Probe.sentence("Term LINE", "a 13 behind which no 10 comes");
        for (String begun : BEGUN) {
            for (int b = 0; b < 256; b++) {
                if (b != 10) {
                    Probe.dueRefused(begun + "\r" + (char) b, 400);
                }
            }
        }
        Probe.sentence("Term LINE", "(for the 13: at the byte behind it)");
        for (String begun : BEGUN) {
            Probe.dueOpen(begun + "\r");
        }
        Probe.dueRefused("G\r\r", 400);
        Probe.dueRefused(Probe.GET + "x:\r ", 400);
    }

    private static void tenWithoutThirteen() {
        Probe.sentence("Term LINE", "or a 10 without a 13 before it is BAD, at that byte");
        for (String begun : BEGUN) {
            Probe.dueRefused(begun + "\n", 400);
        }
    }

    private static void badGoesBeforeLong() {
        Probe.sentence("Term LINE", "also where it would be LONG or BIG");
        String forty = "G /" + Probe.times("a", 34) + " H1";
        int[] bad = {0, 10, 31, 127, 255};
        for (int b : bad) {
            Probe.dueRefused(forty + (char) b, 400);
            Probe.dueRefused(forty + "\r" + (char) (b == 10 ? 13 : b), 400);
            Probe.dueRefused(forty.substring(1) + "\r" + (char) (b == 10 ? 13 : b), 400);
        }
        Probe.dueRefused(forty + "a", 414);
        Probe.dueRefused(forty + "\ra", 400);
        Probe.dueRefused(forty.substring(1) + "\ra", 400);
    }

    private static void badGoesBeforeBig() {
        Probe.sentence("Term LINE", "also where it would be LONG or BIG");
        String thirtyTwo = "x:" + Probe.times("a", 30);
        String[] before = {Probe.GET, FOUR_HEADERS};
        int[] bad = {0, 10, 31, 127, 255};
        for (String lines : before) {
            for (int b : bad) {
                Probe.dueRefused(lines + thirtyTwo + (char) b, 400);
                Probe.dueRefused(lines + thirtyTwo + "\r" + (char) (b == 10 ? 13 : b), 400);
                Probe.dueRefused(lines + thirtyTwo.substring(1) + "\r" + (char) (b == 10 ? 13 : b), 400);
            }
            Probe.dueRefused(lines + thirtyTwo + "a", 431);
            Probe.dueRefused(lines + thirtyTwo + "\ra", 400);
            Probe.dueRefused(lines + thirtyTwo.substring(1) + "\ra", 400);
            Probe.dueRefused(lines + "e\n", 400);
            Probe.dueRefused(lines + "e\r\r", 400);
        }
    }

    private static void sizesOfChunks() {
        Probe.sentence("Term LINE", "a 13 behind which no 10 comes");
        String[] sizes = {"0", "1", "28", "ff"};
        for (String size : sizes) {
            Probe.dueOpen(CHUNKED + size + "\r");
            for (int b = 0; b < 256; b++) {
                if (b != 10) {
                    Probe.dueRefused(CHUNKED + size + "\r" + (char) b, 400);
                }
            }
            Probe.dueRefused(CHUNKED + size + "\n", 400);
        }
    }
}
