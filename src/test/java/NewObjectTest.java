/** Promise 1: what a new object has. */
public final class NewObjectTest {
    public static void main(String[] args) {
        connectionsAreOpenAndSilent();
        nothingIsThere();
        nothingIsTypedOrDrafted();
        objectsShareNothing();
        Probe.end();
    }

    private static void connectionsAreOpenAndSilent() {
        StubServer x = new StubServer();
        for (int c = 0; c < 3; c++) {
            Probe.due("isOpen(" + c + ")", x.isOpen(c), true);
            Probe.due("size(" + c + ")", x.size(c), 0);
            Probe.due("at(" + c + ", 0)", x.at(c, 0), -1);
        }
    }

    private static void nothingIsThere() {
        StubServer x = new StubServer();
        Probe.due("journal()", x.journal(), 0);
        Probe.due("served()", x.served(), 0);
        Probe.due("chosen(0)", x.chosen(0), -2);
        Probe.due("near(0)", x.near(0), -1);
        Probe.due("count()", x.count(), 0);
        Probe.due("reset()", x.reset(), 0);
        Probe.due("remove(0)", x.remove(0), false);
        Probe.due("scene(0, 0, 0, 0)", x.scene(0, 0, 0, 0), false);
        for (int s = 0; s < 3; s++) {
            Probe.due("state(" + s + ")", x.state(s), 0);
        }
    }

    private static void nothingIsTypedOrDrafted() {
        Probe p = new Probe();
        Probe.due("first stub", p.stub(0, 200, ""), 0);
        Probe.due("its empty template and no matcher", p.ask(Probe.GET + "\r\n"), "200 0\n");
        Probe.due("near", p.server.near(0), 0);
    }

    private static void objectsShareNothing() {
        Probe first = new Probe();
        first.stub(0, 200, "x");
        first.type("typed");
        first.send(0, "bad\n");
        Probe second = new Probe();
        Probe.due("another object's connection", second.server.isOpen(0), true);
        Probe.due("another object's stubs", second.ask(Probe.GET + "\r\n"), "404 0\n");
        Probe.due("another object's first ID", second.stub(0, 201, ""), 0);
        Probe.due("another object's typed text", second.ask(Probe.GET + "\r\n"), "201 0\n");
    }
}
