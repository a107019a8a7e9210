/** The term CONNECTIONS, and promise 2: send. */
public final class SendTest {
    public static void main(String[] args) {
        threeConnections();
        oneAfterTheOther();
        lostAtAClosedOne();
        theLowestBytes();
        fewerIfItCloses();
        theClosingOneWasRead();
        wrongConnections();
        wrongNumbers();
        closedOnes();
        requestsInARow();
        Probe.end();
    }

    private static void threeConnections() {
        Probe.sentence("Term CONNECTIONS", "CONNECTIONS are 0 .. 2, each open (at first) or CLOSED.");
        Probe p = new Probe();
        for (int c = -2; c <= 4; c++) {
            boolean there = c >= 0 && c <= 2;
            Probe.due("isOpen(" + c + ")", p.server.isOpen(c), there);
            Probe.due("send(" + c + ", 10, 1)", p.server.send(c, 10, 1), there ? 1 : -1);
            Probe.due("closed " + c, p.server.isOpen(c), false);
            for (int other = c + 1; other <= 2; other++) {
                Probe.due("still open " + other, p.server.isOpen(other), other >= 0);
            }
        }
    }

    private static void oneAfterTheOther() {
        Probe.sentence("Term CONNECTIONS", "Bytes that arrive at an open one are READ one after the other");
        Probe p = new Probe();
        p.stub(0, 200, "{p}");
        String[] texts = {"A /0 H1\r\n\r\n", "A /1 H1\r\n\r\n", "A /2 H1\r\n\r\n"};
        for (int i = 0; i < texts[0].length(); i++) {
            for (int c = 0; c < 3; c++) {
                Probe.due("one byte at " + c, p.server.send(c, texts[c].charAt(i), 1), 1);
            }
        }
        for (int c = 0; c < 3; c++) {
            Probe.due("each connection for itself: " + c, p.response(c), "200 2\n/" + c);
        }
    }

    private static void lostAtAClosedOne() {
        Probe.sentence("Term CONNECTIONS", "those at a closed one are lost");
        for (int c = 0; c < 3; c++) {
            Probe p = new Probe();
            p.send(c, "\n");
            p.send(c, "LOST");
            p.send(c, Probe.REQUEST);
            Probe.due("none was served", p.server.served(), 0);
            p.server.open(c);
            Probe.due("nothing of it is left", p.answer(c, Probe.REQUEST), "404 0\n");
            p.server.open(c);
            p.send(c, "G /\nLOS");
            p.server.open(c);
            Probe.due("nor of what was in the same word", p.answer(c, Probe.REQUEST), "404 0\n");
        }
    }

    private static void theLowestBytes() {
        Probe.sentence("Promise 2", "The n lowest bytes of word arrive at connection c, the highest of them first");
        Probe p = new Probe();
        p.stub(0, 200, "{m}");
        Probe.due("one byte", p.server.send(0, 0xFFFFFF41, 1), 1);
        Probe.due("two bytes", p.server.send(0, 0x00004243, 2), 2);
        Probe.due("three bytes", p.server.send(0, 0xFF44202F, 3), 3);
        Probe.due("four bytes", p.server.send(0, 0x2048310D, 4), 4);
        Probe.due("the rest", p.server.send(0, 0x000A0D0A, 3), 3);
        Probe.due("the method", p.response(0), "200 4\nABCD");
        Probe q = new Probe();
        q.stub(0, 200, "{b}");
        q.send(0, Probe.GET + "len:12\r\n\r\n");
        int[] words = {0xFFFEFD80, 0x80000000, 0x7FFFFFFF};
        for (int word : words) {
            Probe.due("any word", q.server.send(0, word, 4), 4);
        }
        Probe.due("all its bytes", q.response(0), "200 12\n\u00ff\u00fe\u00fd\u0080\u0080\0\0\0\u007f\u00ff\u00ff\u00ff");
    }

    private static void fewerIfItCloses() {
        Probe.sentence("Promise 2", "how many of them were read (fewer than n if it closes");
        for (int n = 1; n <= 4; n++) {
            Probe.due("all of " + n, new StubServer().send(0, 0x41414141, n), n);
            for (int bad = 0; bad < n; bad++) {
                StubServer x = new StubServer();
                int word = 0x41414141 & ~(255 << 8 * (n - 1 - bad));
                Probe.due("bad byte " + bad + " of " + n, x.send(1, word, n), bad + 1);
                Probe.due("closed", x.isOpen(1), false);
                Probe.due("at a closed one", x.send(1, 65, 1), -1);
            }
        }
        Probe p = new Probe();
        p.send(0, Probe.GET + "conn:close\r\n\r");
        Probe.due("served and closed", p.server.send(0, 0x0A474554, 4), 1);
        Probe.due("nothing behind it", p.server.served(), 1);
        Probe.due("by its header", p.server.isOpen(0), false);
    }

    private static void theClosingOneWasRead() {
        Probe.sentence("Promise 2", "the one by which it closes was read)");
        Probe.due("the first of four", new StubServer().send(0, 0x0A414141, 4), 1);
        Probe.due("the last of four", new StubServer().send(0, 0x4141410A, 4), 4);
        Probe.due("the only one", new StubServer().send(0, 0x0A, 1), 1);
        Probe p = new Probe();
        p.send(0, Probe.times("a", 40));
        Probe.due("the 41st of a line", p.server.send(0, 0x61616161, 4), 1);
        Probe q = new Probe();
        q.send(0, Probe.GET + "conn:close\r\nlen:2\r\n\r\n1");
        Probe.due("the last of a body", q.server.send(0, 0x323334, 3), 1);
    }

    private static void wrongConnections() {
        Probe.sentence("Promise 2", "-1, refused, if c is not 0 .. 2");
        int[] wrong = {-1, 3, -2, 4, Probe.LOWEST, Probe.HIGHEST};
        for (int c : wrong) {
            for (int n = 0; n <= 5; n++) {
                Probe.due("send(" + c + ", 65, " + n + ")", new StubServer().send(c, 65, n), -1);
            }
        }
        for (int c = 0; c <= 2; c++) {
            Probe.due("send(" + c + ", 65, 1)", new StubServer().send(c, 65, 1), 1);
        }
    }

    private static void wrongNumbers() {
        Probe.sentence("Promise 2", "n not 1 .. 4");
        int[] wrong = {0, 5, -1, 6, 32, Probe.LOWEST, Probe.HIGHEST};
        for (int n : wrong) {
            Probe p = new Probe();
            Probe.due("send(0, 0x41414141, " + n + ")", p.server.send(0, 0x41414141, n), -1);
            Probe.due("send(0, 10, " + n + ")", p.server.send(0, 10, n), -1);
            Probe.due("still open", p.server.isOpen(0), true);
            Probe.due("nothing came", p.answer(0, Probe.REQUEST), "404 0\n");
        }
        for (int n = 1; n <= 4; n++) {
            Probe.due("send(0, 0x41414141, " + n + ")", new StubServer().send(0, 0x41414141, n), n);
        }
    }

    private static void closedOnes() {
        Probe.sentence("Promise 2", "or it is closed");
        for (int c = 0; c < 3; c++) {
            Probe p = new Probe();
            p.send(c, "\n");
            for (int n = 1; n <= 4; n++) {
                Probe.due("send(" + c + ", 65, " + n + ")", p.server.send(c, 65, n), -1);
                Probe.due("at another one", p.server.send((c + 1) % 3, 0x41414141, 1), 1);
            }
            Probe.due("the response stays", p.response(c), "400 0\n");
            p.server.open(c);
            Probe.due("open again", p.server.send(c, 65, 1), 1);
        }
    }

    private static void requestsInARow() {
        Probe.sentence("Promise 2", "how many of them were read");
        Probe p = new Probe();
        p.stub(0, 200, "{n}{m}{b}{qa}{hx}");
        p.send(0, "A /?a=1 H1\r\nx:2\r\nlen:1\r\n\r\n3B / H1\r\n\r\nC /");
        Probe.due("two requests", p.server.served(), 2);
        Probe.due("the latest response stays", p.response(0), "200 2\n2B");
        p.send(0, " H1\r\nchunked:yes\r\n\r\n1\r\nz\r\n0\r\n\r\nD / H1\r\n\r\n");
        Probe.due("nothing of the one before", p.response(0), "200 2\n4D");
        Probe.due("all are read where one ends", p.send(0, "E / H1\r\n\r\nF"), 11);
        Probe.due("the one that ended", p.response(0), "200 2\n5E");
    }
}
