/** Promise 1: what a new object has; and for how many calls it is used. */
public final class NewObjectTest {
    public static void main(String[] args) {
        noStubs();
        noMatchers();
        nothingTyped();
        anEmptyJournal();
        connectionsAreOpenAndSilent();
        scenariosAreInTheStateZero();
        objectsShareNothing();
        manyRequests();
        manyStubs();
        Probe.end();
    }

    private static void noStubs() {
        Probe.sentence("Promise 1", "No stubs");
        Probe p = new Probe();
        for (int id = -1; id <= 8; id++) {
            Probe.due("remove(" + id + ")", p.server.remove(id), false);
            Probe.due("scene(" + id + ", 0, 0, 0)", p.server.scene(id, 0, 0, 0), false);
        }
        Probe.due("none answers", p.ask(Probe.REQUEST), "404 0\n");
        Probe.due("near(0)", p.server.near(0), -1);
        Probe.due("the first ID", p.server.stub(0, 200), 0);
    }

    private static void noMatchers() {
        Probe.sentence("Promise 1", "no matchers drafted");
        Probe p = new Probe();
        Probe.due("a stub", p.server.stub(0, 200), 0);
        Probe.due("holds for any request", p.ask("ANY /x?y H1\r\n\r\n"), "200 0\n");
        Probe.due("nothing missed", p.server.near(0), 0);
        Probe q = new Probe();
        q.send(0, Probe.REQUEST);
        Probe.due("count()", q.server.count(), 1);
        Probe r = new Probe();
        for (int i = 0; i < 4; i++) {
            Probe.due("room for matcher " + i, r.server.match(Probe.BODY, Probe.EQUAL), true);
        }
    }

    private static void nothingTyped() {
        Probe.sentence("Promise 1", "nothing typed");
        Probe.due("typed", new Probe().typed(), "");
        Probe p = new Probe();
        Probe.due("no name", p.server.match(Probe.HEADER, Probe.PRESENT), false);
        Probe.due("room for forty", p.type(Probe.times("a", 40)), true);
    }

    private static void anEmptyJournal() {
        Probe.sentence("Promise 1", "an empty journal");
        StubServer x = new StubServer();
        Probe.due("journal()", x.journal(), 0);
        Probe.due("chosen(0)", x.chosen(0), -2);
        Probe.due("near(0)", x.near(0), -1);
        Probe.due("count()", x.count(), 0);
        Probe.due("reset()", x.reset(), 0);
        Probe.due("served()", x.served(), 0);
    }

    private static void connectionsAreOpenAndSilent() {
        Probe.sentence("Term CONNECTIONS", "each open (at first)");
        StubServer x = new StubServer();
        for (int c = 0; c < 3; c++) {
            Probe.due("isOpen(" + c + ")", x.isOpen(c), true);
            Probe.due("size(" + c + ")", x.size(c), 0);
            Probe.due("at(" + c + ", 0)", x.at(c, 0), -1);
        }
    }

    private static void scenariosAreInTheStateZero() {
        Probe.sentence("Term SCENARIOS", "SCENARIOS 0 .. 2 are in the state 0 at first.");
        StubServer x = new StubServer();
        for (int s = 0; s < 3; s++) {
            Probe.due("state(" + s + ")", x.state(s), 0);
        }
    }

    private static void objectsShareNothing() {
        Probe.sentence("Promise 1", "No stubs, no matchers drafted, nothing typed, an empty journal.");
        Probe first = new Probe();
        first.stub(0, 200, "x");
        first.server.scene(0, 0, 0, 3);
        first.send(1, Probe.REQUEST);
        first.match(Probe.METHOD, Probe.EQUAL, "none");
        first.type("typed");
        first.send(0, "bad\n");
        Probe second = new Probe();
        Probe.due("another object's connection", second.server.isOpen(0), true);
        Probe.due("another object's scenario", second.server.state(0), 0);
        Probe.due("another object's journal", second.server.journal(), 0);
        Probe.due("another object's stubs", second.ask(Probe.REQUEST), "404 0\n");
        Probe.due("another object's draft", second.server.count(), 1);
        Probe.due("another object's first ID", second.stub(0, 201, ""), 0);
        Probe.due("another object's typed text", second.ask(Probe.REQUEST), "201 0\n");
    }

    private static void manyRequests() {
        Probe.sentence("What it is", "An object is used for at most 512 calls after it has been made");
        StubServer x = new StubServer();
        x.type(0x7B6E7D, 3);
        x.stub(0, 200);
        int calls = 2;
        int requests = 0;
        for (; calls + 3 <= 508; calls += 3) {
            x.send(2, 0x47202F20, 4);
            x.send(2, 0x48310D0A, 4);
            x.send(2, 0x0D0A, 2);
            requests++;
        }
        Probe.due("requests", requests, 168);
        Probe.due("the 507th call", x.served(), requests);
        Probe.due("the 508th call", x.size(2), 9);
        Probe.due("the 509th call", x.at(2, 6), (int) '1');
        Probe.due("the 510th call", x.at(2, 8), (int) '8');
        Probe.due("the 511th call", x.count(), 5);
        Probe.due("the 512th call", x.reset(), 5);
    }

    private static void manyStubs() {
        Probe.sentence("What it is", "An object is used for at most 512 calls after it has been made");
        StubServer x = new StubServer();
        x.send(0, 0x47202F20, 4);
        x.send(0, 0x48310D0A, 4);
        x.send(0, 0x0D0A, 2);
        for (int id = 0; id < 253; id++) {
            Probe.due("stub " + id, x.stub(9, 200), id);
            Probe.due("remove(" + id + ")", x.remove(id), true);
        }
        Probe.due("the 510th call", x.stub(9, 200), 253);
        Probe.due("the 511th call", x.near(0), 25300);
        Probe.due("the 512th call", x.chosen(0), -1);
    }
}
