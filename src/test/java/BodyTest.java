/** Promise 2 and the term BODY. */
public final class BodyTest {
    private static final String CHUNKED = Probe.GET + "chunked:yes\r\n\r\n";

    public static void main(String[] args) {
        lengths();
        anyBytes();
        chunks();
        badChunks();
        largeChunks();
        Probe.end();
    }

    private static void lengths() {
        Probe.dueServed(Probe.GET + "\r\n");
        Probe.dueServed(Probe.GET + "len:0\r\n\r\n");
        Probe.dueServed(Probe.GET + "len:000\r\n\r\n");
        Probe.dueServed(Probe.GET + "len:1\r\n\r\n\r");
        Probe.dueServed(Probe.GET + "len:040\r\n\r\n" + Probe.times("b", 40));
        Probe p = new Probe();
        p.stub(0, 200, "<{b}>");
        Probe.due("no body", p.ask(Probe.GET + "\r\n"), "200 2\n<>");
        Probe.due("of no length", p.ask(Probe.GET + "len:0\r\n\r\n"), "200 2\n<>");
        Probe.due("a short one", p.ask(Probe.GET + "len: 3\r\n\r\nabc"), "200 5\n<abc>");
        Probe.due("lines in it", p.ask(Probe.GET + "len:04\r\n\r\n\r\n\r\n"), "200 6\n<\r\n\r\n>");
    }

    private static void anyBytes() {
        for (int from = 0; from < 256; from += 32) {
            Probe p = new Probe();
            p.stub(0, 200, "{b}");
            StringBuilder body = new StringBuilder();
            for (int b = from; b < from + 32; b++) {
                body.append((char) b);
            }
            Probe.due("bytes from " + from, p.ask(Probe.GET + "len:32\r\n\r\n" + body), "200 32\n" + body);
            String chunk = CHUNKED + "20\r\n" + body + "\r\n0\r\n\r\n";
            Probe.due("chunk from " + from, p.ask(chunk), "200 32\n" + body);
        }
    }

    private static void chunks() {
        Probe.dueServed(CHUNKED + "0\r\n\r\n");
        Probe.dueServed(CHUNKED + "00\r\n\r\n");
        Probe.dueServed(CHUNKED + "1\r\n\r\r\n01\r\n\n\r\n0\r\n\r\n");
        Probe.dueServed(CHUNKED + "28\r\n" + Probe.times("c", 40) + "\r\n0\r\n\r\n");
        Probe.dueServed(CHUNKED + "1f\r\n" + Probe.times("c", 31) + "\r\n9\r\n" + Probe.times("d", 9) + "\r\n0\r\n\r\n");
        Probe p = new Probe();
        p.stub(0, 200, "<{b}>");
        Probe.due("none", p.ask(CHUNKED + "0\r\n\r\n"), "200 2\n<>");
        Probe.due("two", p.ask(CHUNKED + "3\r\nabc\r\n02\r\nde\r\n0\r\n\r\n"), "200 7\n<abcde>");
        Probe.due("base 16", p.ask(CHUNKED + "b\r\n0123456789a\r\n0\r\n\r\n"), "200 13\n<0123456789a>");
        Probe.due("two digits", p.ask(CHUNKED + "10\r\n0123456789abcdef\r\n0\r\n\r\n"), "200 18\n<0123456789abcdef>");
        Probe.due("a new request behind it", p.answer(0, Probe.GET + "\r\n"), "200 2\n<>");
    }

    private static void badChunks() {
        String[] bad = {"g", "A", "F", " ", "-", "\r", "\n", "1g", "1A", "1 ", "1\n", "111", "000", "1\r\r", "1\ra", "0\rx",
            "0\r\na", "0\r\n0", "0\r\n\n", "0\r\n\ra", "0\r\n\r\r", "1\r\nab", "1\r\na\n", "1\r\na\r\r", "1\r\na\ra",
            "1\r\na\r\n\r", "1\r\na\r\n\n", "1\r\na\r\nx", "/", ":", "`"};
        for (String text : bad) {
            Probe.dueRefused(CHUNKED + text, 400);
        }
    }

    private static void largeChunks() {
        Probe.dueRefused(CHUNKED + "29\r\n", 413);
        Probe.dueRefused(CHUNKED + "ff\r\n", 413);
        Probe.dueRefused(CHUNKED + "1\r\na\r\n28\r\n", 413);
        Probe.dueRefused(CHUNKED + "28\r\n" + Probe.times("c", 40) + "\r\n1\r\n", 413);
        Probe.dueRefused(CHUNKED + "28\r\n" + Probe.times("c", 40) + "\r\n01\r\n", 413);
        Probe.dueRefused(CHUNKED + "ff\r\r", 400);
    }
}
