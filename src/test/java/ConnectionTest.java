/** Promises 3 to 6: open, isOpen, size, at. */
public final class ConnectionTest {
    private static final int[] WRONG = {-1, 3, -2, 4, 100, Probe.LOWEST, Probe.HIGHEST};

    public static void main(String[] args) {
        openingAnew();
        openingLeavesTheRest();
        openingWrongOnes();
        whetherOpen();
        wrongOnesAreNotOpen();
        sizes();
        noSize();
        bytes();
        noBytes();
        Probe.end();
    }

    private static void openingAnew() {
        Probe.sentence("Promise 3", "Connection c is new: open, with nothing read, and no response.");
        String[] begun = {"", "X", "X /", "G / H1\r", Probe.GET, Probe.GET + "y:", Probe.GET + "\r", Probe.GET + "len:2\r\n",
            Probe.GET + "len:2\r\n\r\nz", Probe.GET + "chunked:yes\r\n", Probe.GET + "chunked:yes\r\n\r\n1",
            Probe.GET + "chunked:yes\r\n\r\n11", Probe.GET + "chunked:yes\r\n\r\n1\r", Probe.GET + "chunked:yes\r\n\r\n28\r\nz",
            Probe.GET + "chunked:yes\r\n\r\n1\r\nz\r", Probe.GET + "chunked:yes\r\n\r\n0\r\n", "\n", Probe.REQUEST,
            Probe.GET + "conn:close\r\n\r\n", Probe.GET + "len:41\r\n"};
        String body = Probe.times("b", 40);
        String chunks = "A / H1\r\nchunked:yes\r\n\r\n28\r\n" + body + "\r\n0\r\n\r\n";
        for (String text : begun) {
            for (int c = 0; c < 3; c++) {
                Probe p = new Probe();
                p.stub(0, 200, "{m}{b}{hy}");
                p.send(c, text);
                Probe.due("open(" + c + ")", p.server.open(c), true);
                Probe.due("isOpen(" + c + ")", p.server.isOpen(c), true);
                Probe.due("size(" + c + ")", p.server.size(c), 0);
                Probe.due("at(" + c + ", 0)", p.server.at(c, 0), -1);
                Probe.due("new behind " + Probe.shown(text), p.answer(c, Probe.REQUEST), "200 1\nG");
                Probe.due("and new again", p.answer(c, chunks), "200 41\nA" + body);
                p.server.open(c);
                p.send(c, text);
                p.server.open(c);
                Probe.due("chunks at once", p.answer(c, chunks), "200 41\nA" + body);
            }
        }
    }

    private static void openingLeavesTheRest() {
        Probe.sentence("Promise 3", "Connection c is new");
        Probe p = new Probe();
        p.answer(1, Probe.REQUEST);
        p.send(2, "\n");
        p.send(0, "G /");
        p.server.open(0);
        Probe.due("another one keeps its response", p.response(1), "404 0\n");
        Probe.due("and stays closed", p.server.isOpen(2), false);
        p.server.open(1);
        Probe.due("the journal stays", p.server.journal(), 1);
        Probe.due("served() too", p.server.served(), 1);
        Probe.due("an open one may be new too", p.server.open(1), true);
    }

    private static void openingWrongOnes() {
        Probe.sentence("Promise 3", "False if c is not 0 .. 2.");
        for (int c = 0; c <= 2; c++) {
            Probe.due("open(" + c + ")", new StubServer().open(c), true);
        }
        Probe p = new Probe();
        for (int c = 0; c <= 2; c++) {
            p.send(c, "\n");
        }
        for (int wrong : WRONG) {
            Probe.due("open(" + wrong + ")", p.server.open(wrong), false);
        }
        for (int c = 0; c <= 2; c++) {
            Probe.due("not opened: " + c, p.server.isOpen(c), false);
            Probe.due("with its response: " + c, p.response(c), "400 0\n");
        }
    }

    private static void whetherOpen() {
        Probe.sentence("Promise 4", "Whether connection c is open");
        for (int c = 0; c <= 2; c++) {
            Probe p = new Probe();
            Probe.due("at first", p.server.isOpen(c), true);
            p.send(c, Probe.REQUEST);
            Probe.due("behind a request", p.server.isOpen(c), true);
            p.send(c, "\n");
            Probe.due("behind a refusal", p.server.isOpen(c), false);
            p.server.open(c);
            Probe.due("open again", p.server.isOpen(c), true);
        }
    }

    private static void wrongOnesAreNotOpen() {
        Probe.sentence("Promise 4", "false if c is not 0 .. 2");
        for (int wrong : WRONG) {
            Probe.due("isOpen(" + wrong + ")", new StubServer().isOpen(wrong), false);
        }
    }

    private static void sizes() {
        Probe.sentence("Promise 5", "How many bytes the latest response of connection c has");
        for (int c = 0; c <= 2; c++) {
            Probe p = new Probe();
            p.match(Probe.METHOD, Probe.EQUAL, "G");
            p.stub(0, 200, "{b}{b}");
            p.send(c, "X / H1\r\n\r\n");
            Probe.due("without body", p.server.size(c), 6);
            p.send(c, Probe.GET + "len:5\r\n\r\n12345");
            Probe.due("of ten characters", p.server.size(c), 17);
            p.send(c, Probe.GET + "len:30\r\n\r\n" + Probe.times("b", 30));
            Probe.due("of sixty", p.server.size(c), 67);
            p.send(c, Probe.GET + "len:40\r\n\r\n" + Probe.times("b", 40));
            Probe.due("of no more than sixty", p.server.size(c), 67);
            p.send(c, "\n");
            Probe.due("of a refusal", p.server.size(c), 6);
        }
    }

    private static void noSize() {
        Probe.sentence("Promise 5", "0 if there is none, or c is not 0 .. 2");
        Probe p = new Probe();
        for (int c = 0; c <= 2; c++) {
            Probe.due("none yet", p.server.size(c), 0);
            p.send(c, "G / H1\r\n\r");
            Probe.due("none before its last byte", p.server.size(c), 0);
            p.send(c, "\n");
            Probe.due("one then", p.server.size(c), 6);
        }
        for (int wrong : WRONG) {
            Probe.due("size(" + wrong + ")", p.server.size(wrong), 0);
        }
        for (int c = 0; c <= 2; c++) {
            p.server.open(c);
            Probe.due("none at a new one", p.server.size(c), 0);
        }
    }

    private static void bytes() {
        Probe.sentence("Promise 6", "Byte i of the latest response of connection c");
        for (int c = 0; c <= 2; c++) {
            Probe p = new Probe();
            p.stub(0, 599, "a{b}");
            p.send(c, Probe.GET + "len:4\r\n\r\n" + (char) 255 + (char) 0 + (char) 128 + (char) 13);
            int[] want = {'5', '9', '9', ' ', '5', 10, 'a', 255, 0, 128, 13};
            for (int i = 0; i < want.length; i++) {
                Probe.due("at(" + c + ", " + i + ")", p.server.at(c, i), want[i]);
            }
        }
    }

    private static void noBytes() {
        Probe.sentence("Promise 6", "-1 if there is none");
        Probe p = new Probe();
        p.stub(0, 200, "ab");
        for (int c = 0; c <= 2; c++) {
            Probe.due("no response", p.server.at(c, 0), -1);
            p.send(c, Probe.REQUEST);
            Probe.due("the last byte", p.server.at(c, 7), (int) 'b');
            int[] none = {-1, 8, 9, 67, 1000, Probe.LOWEST, Probe.HIGHEST};
            for (int i : none) {
                Probe.due("at(" + c + ", " + i + ")", p.server.at(c, i), -1);
            }
        }
        for (int wrong : WRONG) {
            for (int i = -1; i <= 8; i++) {
                Probe.due("at(" + wrong + ", " + i + ")", p.server.at(wrong, i), -1);
            }
        }
        p.server.open(1);
        Probe.due("none at a new one", p.server.at(1, 0), -1);
    }
}
