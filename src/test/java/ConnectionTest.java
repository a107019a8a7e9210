/** Promises 3 to 6: open, isOpen, size, at. */
public final class ConnectionTest {
    private static final int[] WRONG = {-1, 3, 100, Integer.MIN_VALUE, Integer.MAX_VALUE};

    public static void main(String[] args) {
        wrongConnections();
        openingAnew();
        responses();
        Probe.end();
    }

    private static void wrongConnections() {
        StubServer x = new StubServer();
        for (int c : WRONG) {
            Probe.due("open(" + c + ")", x.open(c), false);
            Probe.due("isOpen(" + c + ")", x.isOpen(c), false);
            Probe.due("size(" + c + ")", x.size(c), 0);
            Probe.due("at(" + c + ", 0)", x.at(c, 0), -1);
        }
    }

    private static void openingAnew() {
        String[] begun = {"X", "X /", "G / H1\r", Probe.GET, Probe.GET + "y:", Probe.GET + "len:2\r\n",
            Probe.GET + "len:2\r\n\r\nz", Probe.GET + "chunked:yes\r\n", Probe.GET + "chunked:yes\r\n\r\n1",
            Probe.GET + "chunked:yes\r\n\r\n28\r\nz", Probe.GET + "chunked:yes\r\n\r\n1\r\nz\r", "\n"};
        String body = Probe.times("b", 40);
        String chunks = "A / H1\r\nchunked:yes\r\n\r\n28\r\n" + body + "\r\n0\r\n\r\n";
        for (String text : begun) {
            for (int c = 0; c < 3; c++) {
                Probe p = new Probe();
                p.stub(0, 200, "{m}{b}{hy}");
                p.send(c, text);
                Probe.due("open(" + c + ")", p.server.open(c), true);
                Probe.due("isOpen(" + c + ")", p.server.isOpen(c), true);
                Probe.due("size(" + c + ")", p.server.size(c), 0);
                Probe.due("at(" + c + ", 0)", p.server.at(c, 0), -1);
                Probe.due("new behind " + Probe.shown(text), p.answer(c, Probe.GET + "\r\n"), "200 1\nG");
                Probe.due("and new again", p.answer(c, chunks), "200 41\nA" + body);
                Probe.due("and again", p.answer(c, chunks), "200 41\nA" + body);
                p.server.open(c);
                p.send(c, text);
                p.server.open(c);
                Probe.due("chunks at once", p.answer(c, chunks), "200 41\nA" + body);
                Probe.due("only these are served", p.server.served(), 4);
            }
        }
        Probe p = new Probe();
        p.answer(1, Probe.GET + "\r\n");
        p.server.open(0);
        Probe.due("another one keeps its response", p.response(1), "404 0\n");
        p.server.open(1);
        Probe.due("a new one has none", p.server.size(1), 0);
        Probe.due("the journal stays", p.server.journal(), 1);
    }

    private static void responses() {
        Probe p = new Probe();
        p.stub(0, 599, "a{b}");
        p.send(2, Probe.GET + "len:1\r\n\r\n" + (char) 255);
        StubServer x = p.server;
        int[] want = {'5', '9', '9', ' ', '2', 10, 'a', 255};
        Probe.due("size(2)", x.size(2), want.length);
        for (int i = 0; i < want.length; i++) {
            Probe.due("at(2, " + i + ")", x.at(2, i), want[i]);
        }
        int[] none = {-1, want.length, want.length + 1, Integer.MIN_VALUE, Integer.MAX_VALUE};
        for (int i : none) {
            Probe.due("at(2, " + i + ")", x.at(2, i), -1);
        }
        Probe.due("of another one", x.size(1), 0);
        p.send(2, "\n");
        Probe.due("the refusal is the latest", p.response(2), "400 0\n");
        Probe.due("closed", x.isOpen(2), false);
        Probe.due("behind its end", x.at(2, 6), -1);
    }
}
