/** Promise 2: which bytes arrive, and how many of them are read. */
public final class SendTest {
    public static void main(String[] args) {
        wrongArguments();
        orderOfBytes();
        bytesBehindTheLastOneAreLost();
        requestsInARow();
        connectionsAreApart();
        closingByHeader();
        Probe.end();
    }

    private static void wrongArguments() {
        StubServer x = new StubServer();
        int[] wrongConnections = {-1, 3, 4, Integer.MIN_VALUE, Integer.MAX_VALUE};
        for (int c : wrongConnections) {
            Probe.due("send(" + c + ", 65, 1)", x.send(c, 65, 1), -1);
        }
        int[] wrongNumbers = {0, 5, -1, Integer.MIN_VALUE, Integer.MAX_VALUE};
        for (int n : wrongNumbers) {
            Probe.due("send(0, 65, " + n + ")", x.send(0, 65, n), -1);
        }
        Probe p = new Probe();
        p.server.send(0, 'X', 0);
        p.server.send(0, 'X', 5);
        Probe.due("a refused send leaves nothing", p.answer(0, Probe.GET + "\r\n"), "404 0\n");
    }

    private static void orderOfBytes() {
        Probe p = new Probe();
        p.stub(0, 200, "{m}");
        Probe.due("only the lowest bytes", p.server.send(0, 0xFFFFFF41, 1), 1);
        Probe.due("two bytes", p.server.send(0, 0x00004243, 2), 2);
        Probe.due("three bytes", p.server.send(0, 0xFF44202F, 3), 3);
        Probe.due("four bytes", p.server.send(0, 0x2048310D, 4), 4);
        Probe.due("the rest", p.server.send(0, 0x000A0D0A, 3), 3);
        Probe.due("the method", p.response(0), "200 4\nABCD");
    }

    private static void bytesBehindTheLastOneAreLost() {
        for (int n = 1; n <= 4; n++) {
            for (int bad = 0; bad < n; bad++) {
                StubServer x = new StubServer();
                int word = 0x41414141 & ~(255 << 8 * (n - 1 - bad));
                Probe.due("bad byte " + bad + " of " + n, x.send(1, word, n), bad + 1);
                Probe.due("closed", x.isOpen(1), false);
                Probe.due("at a closed one", x.send(1, 65, 1), -1);
            }
        }
        Probe p = new Probe();
        p.send(0, "\n");
        p.server.send(0, 65, 1);
        p.server.open(0);
        Probe.due("what came while closed is lost", p.answer(0, Probe.GET + "\r\n"), "404 0\n");
    }

    private static void requestsInARow() {
        Probe p = new Probe();
        p.stub(0, 200, "{n}{m}{b}{qa}{hx}");
        p.send(0, "A /?a=1 H1\r\nx:2\r\nlen:1\r\n\r\n3B / H1\r\n\r\nC /");
        Probe.due("two requests", p.server.served(), 2);
        Probe.due("the latest response stays", p.response(0), "200 2\n2B");
        p.send(0, " H1\r\nchunked:yes\r\n\r\n1\r\nz\r\n0\r\n\r\nD / H1\r\n\r\n");
        Probe.due("nothing of the one before", p.response(0), "200 2\n4D");
        Probe.due("split over two sends within a word", p.server.send(0, 0x45202F20, 4), 4);
    }

    private static void connectionsAreApart() {
        Probe p = new Probe();
        p.stub(0, 200, "{p}");
        String[] texts = {"A /0 H1\r\n\r\n", "A /1 H1\r\n\r\n", "A /2 H1\r\n\r\n"};
        for (int i = 0; i < texts[0].length(); i++) {
            for (int c = 0; c < 3; c++) {
                p.server.send(c, texts[c].charAt(i), 1);
            }
        }
        for (int c = 0; c < 3; c++) {
            Probe.due("connection " + c, p.response(c), "200 2\n/" + c);
        }
    }

    private static void closingByHeader() {
        String[] closing = {"conn:close", "CONN:  close  ", "Conn: close", "conn:keep\r\nconn:close"};
        for (String header : closing) {
            Probe p = new Probe();
            p.stub(0, 200, "ok");
            String text = Probe.GET + header + "\r\n\r\n";
            Probe.due("read up to its last byte", p.send(0, text + "G"), text.length());
            Probe.due("answered with " + Probe.shown(header), p.response(0), "200 2\nok");
            Probe.due("closed by " + Probe.shown(header), p.server.isOpen(0), false);
            Probe.due("journal", p.server.journal(), 1);
        }
        String[] keeping = {"conn:Close", "conn:close x", "connn:close", "con:close", "conn:", "conn-:close"};
        for (String header : keeping) {
            Probe p = new Probe();
            p.send(0, Probe.GET + header + "\r\n\r\n");
            Probe.due("open with " + header, p.server.isOpen(0), true);
        }
        Probe p = new Probe();
        p.send(0, Probe.GET + "conn:close\r\nlen:1\r\n\r\n");
        Probe.due("open until it is served", p.server.isOpen(0), true);
        Probe.due("then closed", p.send(0, "ab"), 1);
        Probe.due("a 404 closes too", p.response(0), "404 0\n");
    }
}
