/** Promises 9 to 11: stub, scene, remove; and which stub is chosen. */
public final class StubTest {
    private static final String REQUEST = Probe.GET + "\r\n";

    public static void main(String[] args) {
        wrongArguments();
        refusedChangesNothing();
        atMostEight();
        choosing();
        allMatchersMustHold();
        removing();
        wrongScenes();
        scenes();
        Probe.end();
    }

    private static void wrongArguments() {
        StubServer x = new StubServer();
        int[] priorities = {-1, 10, Integer.MIN_VALUE, Integer.MAX_VALUE};
        for (int priority : priorities) {
            Probe.due("stub(" + priority + ", 200)", x.stub(priority, 200), -1);
        }
        int[] statuses = {99, 600, 0, -200, Integer.MIN_VALUE, Integer.MAX_VALUE};
        for (int status : statuses) {
            Probe.due("stub(0, " + status + ")", x.stub(0, status), -1);
        }
        Probe.due("the lowest", x.stub(0, 100), 0);
        Probe.due("the highest", x.stub(9, 599), 1);
    }

    private static void refusedChangesNothing() {
        Probe p = new Probe();
        p.match(Probe.PATH, Probe.EQUAL, "/");
        p.type("t");
        p.server.stub(10, 200);
        p.server.stub(0, 600);
        Probe.due("no ID is used up", p.server.stub(0, 200), 0);
        Probe.due("template and draft stayed", p.ask(REQUEST), "200 1\nt");
        Probe.due("the matcher", p.ask("G /x H1\r\n\r\n"), "404 0\n");
        Probe.due("the draft is empty then", p.server.stub(0, 201), 1);
        Probe.due("and nothing is typed", p.ask("G /x H1\r\n\r\n"), "201 0\n");
    }

    private static void atMostEight() {
        Probe p = new Probe();
        for (int id = 0; id < 8; id++) {
            Probe.due("stub " + id, p.stub(5, 200 + id, "" + id), id);
        }
        p.type("t");
        Probe.due("the ninth", p.server.stub(5, 300), -1);
        Probe.due("it changes nothing", p.ask(REQUEST), "207 1\n7");
        Probe.due("remove(3)", p.server.remove(3), true);
        Probe.due("there are 7 then", p.server.stub(5, 300), 8);
        Probe.due("what was typed stayed", p.ask(REQUEST), "300 1\nt");
        Probe.due("there are 8 again", p.server.stub(5, 300), -1);
        for (int id = 9; id < 20; id++) {
            Probe.due("remove", p.server.remove(id - 1), true);
            Probe.due("IDs go on", p.server.stub(5, 300), id);
            p.ask(REQUEST);
            Probe.due("and are chosen", p.server.chosen(4 < p.server.journal() - 1 ? 4 : p.server.journal() - 1), id);
            Probe.due("and nearest", p.server.near(0), 100 * id);
        }
    }

    private static void choosing() {
        Probe p = new Probe();
        Probe.due("none", p.ask(REQUEST), "404 0\n");
        p.stub(5, 200, "five");
        Probe.due("the only one", p.ask(REQUEST), "200 4\nfive");
        p.stub(7, 201, "seven");
        Probe.due("the lowest priority", p.ask(REQUEST), "200 4\nfive");
        p.stub(5, 202, "again");
        Probe.due("the highest ID", p.ask(REQUEST), "202 5\nagain");
        p.stub(0, 203, "zero");
        Probe.due("a lower one", p.ask(REQUEST), "203 4\nzero");
        p.match(Probe.METHOD, Probe.EQUAL, "X");
        p.stub(0, 204, "other");
        Probe.due("one that does not hold", p.ask(REQUEST), "203 4\nzero");
        p.stub(9, 205, "nine");
        Probe.due("a high one", p.ask(REQUEST), "203 4\nzero");
    }

    private static void allMatchersMustHold() {
        String[] typed = {"G", "/a", "k v", "h w"};
        String[][] requests = {{"X /a?k=v H1\r\nh:w\r\n\r\n"}, {"G /b?k=v H1\r\nh:w\r\n\r\n"}, {"G /a?k=x H1\r\nh:w\r\n\r\n"},
            {"G /a?k=v H1\r\nh:x\r\n\r\n"}};
        Probe p = new Probe();
        for (int part = 0; part < 4; part++) {
            p.match(part, Probe.EQUAL, typed[part]);
        }
        p.stub(0, 200, "all");
        for (String[] request : requests) {
            Probe.due("one is missed", p.ask(request[0]), "404 0\n");
        }
        Probe.due("all hold", p.ask("G /a?k=v H1\r\nh:w\r\n\r\n"), "200 3\nall");
    }

    private static void removing() {
        Probe p = new Probe();
        p.stub(0, 200, "a");
        p.stub(1, 201, "b");
        p.ask(REQUEST);
        int[] wrong = {-1, 2, 8, Integer.MIN_VALUE, Integer.MAX_VALUE};
        for (int id : wrong) {
            Probe.due("remove(" + id + ")", p.server.remove(id), false);
        }
        Probe.due("remove(0)", p.server.remove(0), true);
        Probe.due("it is gone", p.ask(REQUEST), "201 1\nb");
        Probe.due("the journal keeps its ID", p.server.chosen(0), 0);
        Probe.due("there is none", p.server.remove(0), false);
        Probe.due("no scene for it", p.server.scene(0, 0, 0, 0), false);
        Probe.due("the next ID", p.stub(0, 202, "c"), 2);
        Probe.due("remove(1)", p.server.remove(1), true);
        Probe.due("remove(2)", p.server.remove(2), true);
        Probe.due("none is left", p.ask(REQUEST), "404 0\n");
        Probe.due("nearest to it", p.server.near(0), -1);
        Probe.due("the ID behind all", p.stub(0, 203, ""), 3);
    }

    private static void wrongScenes() {
        Probe p = new Probe();
        p.stub(0, 200, "");
        int[] wrongIds = {-1, 1, Integer.MIN_VALUE, Integer.MAX_VALUE};
        for (int id : wrongIds) {
            Probe.due("scene of " + id, p.server.scene(id, 0, 0, 0), false);
        }
        int[] wrongScenarios = {-1, 3, Integer.MIN_VALUE, Integer.MAX_VALUE};
        for (int scenario : wrongScenarios) {
            Probe.due("scenario " + scenario, p.server.scene(0, scenario, 1, 1), false);
        }
        int[] wrongStates = {-1, 4, Integer.MIN_VALUE, Integer.MAX_VALUE};
        for (int state : wrongStates) {
            Probe.due("need " + state, p.server.scene(0, 0, state, 1), false);
            Probe.due("next " + state, p.server.scene(0, 0, 0, state), false);
        }
        Probe.due("no scene came", p.ask(REQUEST), "200 0\n");
        Probe.due("the highest ones", p.server.scene(0, 2, 3, 3), true);
        Probe.due("it is needed", p.ask(REQUEST), "404 0\n");
    }

    private static void scenes() {
        Probe p = new Probe();
        p.stub(0, 200, "a");
        p.stub(0, 201, "b");
        Probe.due("scene", p.server.scene(0, 1, 0, 3), true);
        Probe.due("scene", p.server.scene(1, 1, 3, 0), true);
        Probe.due("in the state 0", p.ask(REQUEST), "200 1\na");
        Probe.due("it moved on", p.server.state(1), 3);
        Probe.due("only this one", p.server.state(0) + p.server.state(2), 0);
        Probe.due("in the state 3", p.ask(REQUEST), "201 1\nb");
        Probe.due("it moved back", p.server.state(1), 0);
        p.send(0, "X /?a=% H1\r\n");
        Probe.due("a refused request moves none", p.server.state(1), 0);
        Probe.due("another scene instead", p.server.scene(0, 2, 0, 2), true);
        Probe.due("once", p.ask(REQUEST), "200 1\na");
        Probe.due("its own scenario", p.server.state(2), 2);
        Probe.due("not the one before", p.server.state(1), 0);
        Probe.due("not again", p.ask(REQUEST), "404 0\n");
        Probe.due("a missed one moves none", p.server.state(2), 2);
        p.match(Probe.METHOD, Probe.EQUAL, "X");
        p.stub(0, 202, "c");
        p.server.scene(2, 0, 0, 1);
        p.ask(REQUEST);
        Probe.due("a matcher that does not hold", p.server.state(0), 0);
        p.stub(0, 203, "d");
        p.ask("X / H1\r\n\r\n");
        Probe.due("only the chosen one moves", p.server.state(0), 0);
    }
}
