/** The term BODY. */
public final class BodyTest {
    private static final String CHUNKED = Probe.GET + "chunked:yes\r\n\r\n";
    private static final String LAST = "0\r\n\r\n";

    public static void main(String[] args) {
        none();
        withLen();
        anyBytes();
        digitsOfSizes();
        sizesInBaseSixteen();
        badAtTheFirstByte();
        endsOfChunks();
        theLastChunk();
        atMostForty();
        largeAtTheTen();
        Probe.end();
    }

    private static String chunk(int size) {
        return Integer.toHexString(size) + "\r\n" + Probe.times("c", size) + "\r\n";
    }

    private static void bodyOf(String request, String want) {
        Probe p = new Probe();
        p.stub(0, 200, "{b}");
        Probe.due("the body of " + Probe.shown(request), p.ask(request), "200 " + want.length() + "\n" + want);
        Probe.due("served", p.server.served(), 1);
    }

    private static void none() {
        Probe.sentence("Term BODY", "a BODY: none");
        Probe.dueServed(Probe.REQUEST);
        Probe.dueServed(Probe.GET + "x:1\r\n\r\n");
        bodyOf(Probe.REQUEST, "");
        Probe p = new Probe();
        p.stub(0, 200, "<{b}{m}>");
        Probe.due("what comes behind is the next request", p.ask(Probe.REQUEST + "N / H1\r\n\r\n"), "200 3\n<N>");
        Probe.due("two", p.server.served(), 2);
    }

    private static void withLen() {
        Probe.sentence("Term BODY", "or, with len, so many bytes");
        for (int n = 0; n <= 40; n++) {
            Probe.dueServed(Probe.GET + "len:" + n + "\r\n\r\n" + Probe.times("b", n));
            bodyOf(Probe.GET + "len:" + n + "\r\n\r\n" + Probe.times("b", n), Probe.times("b", n));
        }
        Probe.dueServed(Probe.GET + "len:000\r\n\r\n");
        Probe.dueServed(Probe.GET + "len:040\r\n\r\n" + Probe.times("b", 40));
        Probe p = new Probe();
        p.stub(0, 200, "<{b}{m}>");
        p.send(0, Probe.GET + "len:3\r\n\r\nabcN / H1\r\nlen:1\r\n\r\nd");
        Probe.due("what comes behind is the next request", p.response(0), "200 4\n<dN>");
        Probe.due("two", p.server.served(), 2);
    }

    private static void anyBytes() {
        Probe.sentence("Term BODY", "so many bytes");
        for (int from = 0; from < 256; from += 32) {
            StringBuilder body = new StringBuilder();
            for (int b = from; b < from + 32; b++) {
                body.append((char) b);
            }
            bodyOf(Probe.GET + "len:32\r\n\r\n" + body, body.toString());
            bodyOf(CHUNKED + "20\r\n" + body + "\r\n" + LAST, body.toString());
        }
        bodyOf(Probe.GET + "len:4\r\n\r\n\r\n\r\n", "\r\n\r\n");
        bodyOf(CHUNKED + "5\r\n0\r\n\r\n\r\n" + LAST, "0\r\n\r\n");
        bodyOf(CHUNKED + "1\r\n\r\r\n01\r\n\n\r\n" + LAST, "\r\n");
    }

    private static boolean isDigit(int b) {
        return b >= '0' && b <= '9' || b >= 'a' && b <= 'f';
    }

    private static void digitsOfSizes() {
        Probe.sentence("Term BODY", "or, with chunked, CHUNKS: a line of one or two digits 0 .. 9, a .. f");
        for (int b = 0; b < 256; b++) {
            String first = CHUNKED + (char) b;
            String second = CHUNKED + "1" + (char) b;
            String third = CHUNKED + "00" + (char) b;
            if (isDigit(b)) {
                Probe.dueOpen(first);
                Probe.dueOpen(first + "\r");
                Probe.dueOpen(second);
                Probe.dueOpen(second + "\r");
            } else {
                Probe.dueRefused(first, 400);
            }
            if (!isDigit(b) && b != 13) {
                Probe.dueRefused(second, 400);
            }
            if (b != 13) {
                Probe.dueRefused(third, 400);
            }
        }
        Probe.dueOpen(CHUNKED + "00\r");
        Probe.dueRefused(CHUNKED + chunk(1) + "\r", 400);
        Probe.dueRefused(CHUNKED + chunk(1) + "000", 400);
    }

    private static void sizesInBaseSixteen() {
        Probe.sentence("Term BODY", "the size in base 16");
        for (int size = 1; size <= 40; size++) {
            String body = Probe.times("0123456789", 4).substring(0, size);
            String[] ways = {Integer.toHexString(size), String.format("%02x", size)};
            for (String way : ways) {
                String request = CHUNKED + way + "\r\n" + body + "\r\n" + LAST;
                Probe.dueServed(request);
                bodyOf(request, body);
            }
        }
        bodyOf(CHUNKED + "3\r\nabc\r\n02\r\nde\r\n" + LAST, "abcde");
        bodyOf(CHUNKED + "b\r\n0123456789a\r\n10\r\n0123456789abcdef\r\n" + LAST, "0123456789a0123456789abcdef");
    }

    private static void badAtTheFirstByte() {
        Probe.sentence("Term BODY", "(BAD at the first byte that cannot be so)");
        String[] bad = {"\r", "\n", " ", "g", "A", "F", "-", "x", "1 ", "1\n", "1g", "1A", "000", "111", "fff", "1\r\r", "1\ra", "0\rx", "28\r0"};
        for (String text : bad) {
            Probe.dueRefused(CHUNKED + text, 400);
            Probe.dueRefused(CHUNKED + chunk(2) + text, 400);
            Probe.dueRefused(CHUNKED + chunk(0x10) + chunk(1) + text, 400);
        }
    }

    private static void endsOfChunks() {
        Probe.sentence("Term BODY", "so many bytes, and 13, 10 (BAD at a byte that is not)");
        for (int b = 0; b < 256; b++) {
            if (b != 13) {
                Probe.dueRefused(CHUNKED + "1\r\na" + (char) b, 400);
                Probe.dueRefused(CHUNKED + chunk(1) + "02\r\nab" + (char) b, 400);
            }
            if (b != 10) {
                Probe.dueRefused(CHUNKED + "1\r\na\r" + (char) b, 400);
                Probe.dueRefused(CHUNKED + chunk(1) + "02\r\nab\r" + (char) b, 400);
            }
        }
        Probe.dueOpen(CHUNKED + "28\r\n" + Probe.times("c", 40) + "\r");
        Probe.dueOpen(CHUNKED + "28\r\n" + Probe.times("c", 40) + "\r\n");
    }

    private static void theLastChunk() {
        Probe.sentence("Term BODY", "the first chunk of the size 0 ends it (with its 13, 10, which come at once)");
        String[] zeros = {"0", "00"};
        for (String zero : zeros) {
            Probe.dueServed(CHUNKED + zero + "\r\n\r\n");
            Probe.dueServed(CHUNKED + chunk(1) + zero + "\r\n\r\n");
            Probe.dueServed(CHUNKED + chunk(40) + zero + "\r\n\r\n");
            for (int b = 0; b < 256; b++) {
                if (b != 13) {
                    Probe.dueRefused(CHUNKED + zero + "\r\n" + (char) b, 400);
                }
                if (b != 10) {
                    Probe.dueRefused(CHUNKED + zero + "\r\n\r" + (char) b, 400);
                }
            }
        }
        bodyOf(CHUNKED + "0\r\n\r\n", "");
        Probe p = new Probe();
        p.stub(0, 200, "<{b}{m}>");
        Probe.due("what comes behind is the next request", p.ask(CHUNKED + chunk(2) + "0\r\n\r\nN / H1\r\n\r\n"), "200 3\n<N>");
        Probe.due("two", p.server.served(), 2);
    }

    private static void atMostForty() {
        Probe.sentence("Term BODY", "if all sizes together are more than 40");
        for (int size = 41; size <= 255; size++) {
            Probe.dueRefused(CHUNKED + Integer.toHexString(size) + "\r\n", 413);
        }
        Probe.dueServed(CHUNKED + chunk(40) + LAST);
        for (int first = 1; first <= 40; first++) {
            if (first < 40) {
                Probe.dueServed(CHUNKED + chunk(first) + chunk(40 - first) + LAST);
            }
            Probe.dueRefused(CHUNKED + chunk(first) + Integer.toHexString(41 - first) + "\r\n", 413);
            Probe.dueRefused(CHUNKED + chunk(first) + "ff\r\n", 413);
        }
        Probe.dueServed(CHUNKED + Probe.times(chunk(1), 40) + LAST);
        Probe.dueRefused(CHUNKED + Probe.times(chunk(1), 40) + "1\r\n", 413);
        Probe.dueServed(CHUNKED + Probe.times(chunk(10), 4) + LAST);
        Probe.dueRefused(CHUNKED + Probe.times(chunk(10), 4) + "01\r\n", 413);
        Probe p = new Probe();
        p.send(0, CHUNKED + chunk(40) + LAST + CHUNKED + chunk(40) + LAST);
        Probe.due("for each request anew", p.server.served(), 2);
    }

    private static void largeAtTheTen() {
        Probe.sentence("Term BODY", "It is LARGE, at the 10 of the line");
        Probe.dueOpen(CHUNKED + "29");
        Probe.dueOpen(CHUNKED + "29\r");
        Probe.dueRefused(CHUNKED + "29\r\n", 413);
        Probe.dueRefused(CHUNKED + "29\rx", 400);
        Probe.dueRefused(CHUNKED + "290", 400);
        Probe.dueOpen(CHUNKED + chunk(40) + "1\r");
        Probe.dueRefused(CHUNKED + chunk(40) + "1\r\n", 413);
        Probe.dueRefused(CHUNKED + "ff\r\n", 413);
    }
}
