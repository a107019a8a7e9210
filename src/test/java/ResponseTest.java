/** The terms SERVED, REFUSED and RESPONSE. */
public final class ResponseTest {
    private static final String CHUNKED = Probe.GET + "chunked:yes\r\n\r\n";

    public static void main(String[] args) {
        servedAtItsLastByte();
        refused();
        closedByARefusal();
        onlyTheRefusedOneIsGone();
        closedByItsHeader();
        closedBehindServing();
        itsForm();
        theLatest();
        noneIsChosen();
        Probe.end();
    }

    private static void servedAtItsLastByte() {
        Probe.sentence("Term SERVED", "At its last byte a request is SERVED");
        String[] requests = {Probe.REQUEST, Probe.GET + "len:0\r\n\r\n", Probe.GET + "len:2\r\n\r\nab", CHUNKED + "0\r\n\r\n",
            CHUNKED + "1\r\na\r\n00\r\n\r\n"};
        for (String request : requests) {
            Probe p = new Probe();
            p.stub(0, 200, "");
            p.server.scene(0, 0, 0, 1);
            p.send(0, request.substring(0, request.length() - 1));
            Probe.due("journal() before", p.server.journal(), 0);
            Probe.due("served() before", p.server.served(), 0);
            Probe.due("size(0) before", p.server.size(0), 0);
            Probe.due("state(0) before", p.server.state(0), 0);
            p.send(0, request.substring(request.length() - 1));
            Probe.due("journal() then", p.server.journal(), 1);
            Probe.due("served() then", p.server.served(), 1);
            Probe.due("response then", p.response(0), "200 0\n");
            Probe.due("state(0) then", p.server.state(0), 1);
            Probe.due("open then", p.server.isOpen(0), true);
        }
    }

    private static void refused() {
        Probe.sentence("Term REFUSED", "a request that is BAD, LARGE, LONG or BIG is REFUSED at that byte, with the status 400, 413, 414 or 431 and no body");
        Probe.dueRefused("\n", 400);
        Probe.dueRefused("G\r\n", 400);
        Probe.dueRefused(Probe.GET + "x\r\n", 400);
        Probe.dueRefused(CHUNKED + "g", 400);
        Probe.dueRefused(Probe.GET + "len:41\r\n", 413);
        Probe.dueRefused(CHUNKED + "29\r\n", 413);
        Probe.dueRefused(Probe.times("a", 41), 414);
        Probe.dueRefused(Probe.GET + Probe.times("a", 33), 431);
        Probe.dueRefused(Probe.GET + "a:\r\na:\r\na:\r\na:\r\na:\r\n", 431);
        Probe p = new Probe();
        p.stub(0, 200, "a template");
        Probe.due("no stub answers it", p.ask("\n"), "400 0\n");
    }

    private static void closedByARefusal() {
        Probe.sentence("Term REFUSED", "and the connection is closed");
        String[] refused = {"\n", Probe.GET + "len:41\r\n", Probe.times("a", 41), Probe.GET + Probe.times("a", 33)};
        for (String text : refused) {
            for (int c = 0; c < 3; c++) {
                Probe p = new Probe();
                Probe.due("read", p.send(c, text), text.length());
                for (int other = 0; other < 3; other++) {
                    Probe.due("open " + other, p.server.isOpen(other), other != c);
                    Probe.due("a response at " + other, p.server.size(other), other == c ? 6 : 0);
                }
                Probe.due("no more is read", p.send(c, Probe.REQUEST), 0);
            }
        }
    }

    private static void onlyTheRefusedOneIsGone() {
        Probe.sentence("Term REFUSED", "is REFUSED at that byte");
        Probe p = new Probe();
        p.stub(0, 200, "{n}");
        p.server.scene(0, 1, 0, 0);
        p.send(0, Probe.REQUEST);
        p.send(1, "G / H");
        p.send(0, Probe.GET + "len:99\r\n");
        Probe.due("journal()", p.server.journal(), 1);
        Probe.due("served()", p.server.served(), 1);
        Probe.due("state(1)", p.server.state(1), 0);
        Probe.due("another one reads on", p.answer(1, "1\r\n\r\n"), "200 1\n2");
    }

    private static void closedByItsHeader() {
        Probe.sentence("Term RESPONSE", "It is also closed when a request was served that has a header conn with the value close.");
        String[] closing = {"conn:close", "CONN:close", "cOnN:  close  ", "Conn: close", "conn:keep\r\nconn:close", "conn:close\r\nconn:keep",
            "a:1\r\nb:2\r\nc:3\r\nconn:close"};
        for (String header : closing) {
            Probe p = new Probe();
            p.stub(0, 200, "ok");
            String text = Probe.GET + header + "\r\n\r\n";
            Probe.due("read up to its last byte", p.send(0, text + "G"), text.length());
            Probe.due("answered with " + Probe.shown(header), p.response(0), "200 2\nok");
            Probe.due("closed by " + Probe.shown(header), p.server.isOpen(0), false);
            Probe.due("only this one", p.server.isOpen(1) && p.server.isOpen(2), true);
            Probe.due("journal()", p.server.journal(), 1);
            Probe.due("served()", p.server.served(), 1);
        }
        String[] keeping = {"conn:Close", "conn:CLOSE", "conn:close x", "conn:clos", "conn:closed", "connn:close", "con:close", "conn:", "conn-:close",
            "x:close", "close:conn", "x:conn:close"};
        for (String header : keeping) {
            Probe p = new Probe();
            p.send(0, Probe.GET + header + "\r\n\r\n");
            Probe.due("served with " + header, p.server.served(), 1);
            Probe.due("open with " + header, p.server.isOpen(0), true);
            p.send(0, Probe.REQUEST);
            Probe.due("and goes on", p.server.served(), 2);
        }
    }

    private static void closedBehindServing() {
        Probe.sentence("Term RESPONSE", "It is also closed when a request was served");
        Probe p = new Probe();
        p.send(0, Probe.GET + "conn:close\r\nlen:1\r\n\r\n");
        Probe.due("open until it is served", p.server.isOpen(0), true);
        Probe.due("then closed", p.send(0, "ab"), 1);
        Probe.due("a 404 closes too", p.response(0), "404 0\n");
        Probe.due("closed", p.server.isOpen(0), false);
        p.server.open(0);
        p.send(0, Probe.REQUEST);
        Probe.due("the next one does not close", p.server.isOpen(0), true);
        p.server.open(0);
        p.send(0, Probe.GET + "conn:close\r\n");
        p.server.open(0);
        p.send(0, Probe.REQUEST);
        Probe.due("one that was not served does not close", p.server.isOpen(0), true);
    }

    private static void itsForm() {
        Probe.sentence("Term RESPONSE",
                "The RESPONSE is: the status in three digits, a space, the number of the body's characters, the byte 10, and the body.");
        int[] statuses = {100, 101, 200, 404, 598, 599};
        for (int status : statuses) {
            for (int length = 0; length <= 40; length++) {
                Probe p = new Probe();
                String body = Probe.times("0123456789", 4).substring(0, length);
                p.stub(0, status, body);
                Probe.due("of " + status, p.ask(Probe.REQUEST), status + " " + length + "\n" + body);
            }
        }
        Probe p = new Probe();
        p.stub(0, 200, "{b}{b}");
        String body = Probe.times("b", 40);
        Probe.due("the largest", p.ask(Probe.GET + "len:40\r\n\r\n" + body), "200 60\n" + (body + body).substring(0, 60));
        Probe.due("its size", p.server.size(0), 67);
    }

    private static void theLatest() {
        Probe.sentence("Term RESPONSE", "A connection shows its latest response.");
        Probe p = new Probe();
        p.stub(0, 200, "{b}");
        Probe.due("none at first", p.server.size(0), 0);
        p.send(0, Probe.GET + "len:5\r\n\r\nfirst");
        Probe.due("the first", p.response(0), "200 5\nfirst");
        p.send(0, Probe.GET + "len:3\r\n\r\nne");
        Probe.due("as long as there is no other", p.response(0), "200 5\nfirst");
        p.send(0, "w");
        Probe.due("the next, which is shorter", p.response(0), "200 3\nnew");
        Probe.due("nothing behind it", p.server.at(0, 9), -1);
        p.send(1, Probe.GET + "len:5\r\n\r\nother");
        Probe.due("of this connection alone", p.response(0), "200 3\nnew");
        p.send(0, "\n");
        Probe.due("a refusal too", p.response(0), "400 0\n");
        p.send(0, Probe.REQUEST);
        Probe.due("it stays at a closed one", p.response(0), "400 0\n");
    }

    private static void noneIsChosen() {
        Probe.sentence("Term RESPONSE", "If none is chosen, the status is 404, without body.");
        Probe p = new Probe();
        Probe.due("no stubs", p.ask(Probe.REQUEST), "404 0\n");
        p.match(Probe.METHOD, Probe.EQUAL, "X");
        p.stub(0, 200, "body");
        Probe.due("no stub that holds", p.ask(Probe.REQUEST), "404 0\n");
        p.stub(0, 201, "body");
        p.server.scene(1, 0, 1, 2);
        Probe.due("no scene that holds", p.ask(Probe.REQUEST), "404 0\n");
        Probe.due("open", p.server.isOpen(0), true);
        Probe.due("in the journal", p.server.journal(), 3);
        Probe.due("with no ID", p.server.chosen(2), -1);
        Probe.due("no scenario moves", p.server.state(0), 0);
        p.server.remove(1);
        p.server.remove(0);
        Probe.due("none is left", p.ask(Probe.REQUEST), "404 0\n");
    }
}
