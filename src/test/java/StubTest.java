/** The term STUBS, and promises 9 and 11: stub and remove. */
public final class StubTest {
    private static final String REQUEST = Probe.REQUEST;
    private static final int[] FAR = {-1000, 1000, Probe.LOWEST, Probe.HIGHEST};

    public static void main(String[] args) {
        atMostEight();
        idsInOrder();
        priorities();
        upToFourMatchers();
        allMatchersMustHold();
        lowestPriority();
        highestId();
        draftAndTyped();
        theDraftIsEmptyThen();
        wrongPriorities();
        wrongStatuses();
        thereAreEight();
        removing();
        theJournalKeepsItsId();
        removingNone();
        Probe.end();
    }

    private static void atMostEight() {
        Probe.sentence("Term STUBS", "STUBS, at most 8");
        Probe p = new Probe();
        for (int id = 0; id < 8; id++) {
            Probe.due("stub " + id, p.stub(9 - id, 200 + id, "s" + id), id);
            Probe.due("it answers", p.ask(REQUEST), "20" + id + " 2\ns" + id);
        }
        Probe.due("the ninth", p.stub(0, 300, ""), -1);
        Probe.due("it answers not", p.ask(REQUEST), "207 2\ns7");
        for (int id = 7; id > 0; id--) {
            p.server.remove(id);
            Probe.due("each of the others is there", p.ask(REQUEST), "20" + (id - 1) + " 2\ns" + (id - 1));
        }
    }

    private static void idsInOrder() {
        Probe.sentence("Term STUBS", "have IDs 0, 1, 2, .. in the order in which they came (also those that are gone count)");
        Probe p = new Probe();
        for (int id = 0; id < 3; id++) {
            Probe.due("stub", p.server.stub(id, 200), id);
        }
        p.server.remove(2);
        Probe.due("behind a gone one", p.server.stub(0, 200), 3);
        p.server.remove(0);
        p.server.remove(1);
        p.server.remove(3);
        Probe.due("behind gone ones alone", p.server.stub(0, 200), 4);
        for (int id = 5; id < 60; id++) {
            Probe.due("remove", p.server.remove(id - 1), true);
            Probe.due("IDs go on", p.server.stub(5, 200), id);
        }
        p.send(0, REQUEST);
        Probe.due("it is chosen", p.server.chosen(0), 59);
        Probe.due("it is near", p.server.near(0), 5900);
        Probe.due("it may have a scene", p.server.scene(59, 0, 3, 3), true);
        Probe.due("one condition", p.server.near(0), 5901);
    }

    private static void priorities() {
        Probe.sentence("Term STUBS", "a priority 0 .. 9, a status, a TEMPLATE");
        for (int low = 0; low < 9; low++) {
            Probe p = new Probe();
            p.stub(low + 1, 201, "high");
            p.stub(low, 200, "low");
            p.stub(low + 1, 202, "again");
            Probe.due(low + " goes before " + (low + 1), p.ask(REQUEST), "200 3\nlow");
        }
    }

    private static void upToFourMatchers() {
        Probe.sentence("Term STUBS", "up to 4 matchers");
        for (int matchers = 0; matchers <= 4; matchers++) {
            Probe p = new Probe();
            for (int i = 0; i < matchers; i++) {
                p.match(Probe.METHOD, Probe.EQUAL, "G");
            }
            p.stub(0, 200, "");
            p.ask(REQUEST);
            p.ask("X / H1\r\n\r\n");
            Probe.due("all hold", p.server.near(0), 0);
            Probe.due("none holds", p.server.near(1), matchers);
            Probe.due("chosen", p.server.chosen(0), 0);
            Probe.due("not chosen", p.server.chosen(1), matchers == 0 ? 0 : -1);
        }
        Probe p = new Probe();
        for (int i = 0; i < 5; i++) {
            p.match(Probe.METHOD, Probe.EQUAL, i == 4 ? "" : "G");
        }
        p.server.stub(0, 200);
        Probe.due("a fifth is not there", p.ask(REQUEST), "200 0\n");
    }

    private static void allMatchersMustHold() {
        Probe.sentence("Term STUBS", "of the stubs whose matchers all hold");
        String[] typed = {"G", "/a", "k v", "h w"};
        String[] requests = {"X /a?k=v H1\r\nh:w\r\n\r\n", "G /b?k=v H1\r\nh:w\r\n\r\n", "G /a?k=x H1\r\nh:w\r\n\r\n",
            "G /a?k=v H1\r\nh:x\r\n\r\n"};
        Probe p = new Probe();
        for (int part = 0; part < 4; part++) {
            p.match(part, Probe.EQUAL, typed[part]);
        }
        p.stub(0, 200, "all");
        for (String request : requests) {
            Probe.due("one is missed", p.ask(request), "404 0\n");
        }
        Probe.due("all hold", p.ask("G /a?k=v H1\r\nh:w\r\n\r\n"), "200 3\nall");
        p.stub(9, 201, "any");
        Probe.due("another one instead", p.ask(requests[0]), "201 3\nany");
    }

    private static void lowestPriority() {
        Probe.sentence("Term STUBS", "the one with the lowest priority");
        Probe p = new Probe();
        p.stub(5, 200, "five");
        Probe.due("the only one", p.ask(REQUEST), "200 4\nfive");
        p.stub(6, 201, "six");
        Probe.due("a higher one", p.ask(REQUEST), "200 4\nfive");
        p.stub(4, 202, "four");
        Probe.due("a lower one", p.ask(REQUEST), "202 4\nfour");
        p.match(Probe.METHOD, Probe.EQUAL, "X");
        p.stub(0, 203, "other");
        Probe.due("the lowest does not hold", p.ask(REQUEST), "202 4\nfour");
        p.stub(9, 204, "nine");
        Probe.due("the highest", p.ask(REQUEST), "202 4\nfour");
        p.stub(0, 205, "zero");
        Probe.due("the lowest", p.ask(REQUEST), "205 4\nzero");
    }

    private static void highestId() {
        Probe.sentence("Term STUBS", "of several the one with the highest ID, is CHOSEN");
        int[] priorities = {0, 5, 9};
        for (int priority : priorities) {
            Probe p = new Probe();
            for (int id = 0; id < 8; id++) {
                p.stub(priority, 200 + id, "");
                Probe.due("the latest", p.ask(REQUEST), "20" + id + " 0\n");
            }
            p.server.remove(7);
            Probe.due("the latest that is there", p.ask(REQUEST), "206 0\n");
            p.server.remove(2);
            p.stub(priority, 300, "");
            Probe.due("one in a gone one's room", p.ask(REQUEST), "300 0\n");
        }
    }

    private static void draftAndTyped() {
        Probe.sentence("Promise 9", "A new stub with the draft's matchers, and what is typed as its template");
        Probe p = new Probe();
        p.match(Probe.METHOD, Probe.EQUAL, "G");
        p.type(Probe.times("t", 40));
        Probe.due("stub", p.server.stub(3, 222), 0);
        Probe.due("the longest template", p.ask(REQUEST), "222 40\n" + Probe.times("t", 40));
        Probe.due("its matcher", p.ask("X / H1\r\n\r\n"), "404 0\n");
        Probe.due("nothing drafted or typed", p.server.stub(4, 223), 1);
        Probe.due("an empty template", p.ask("X / H1\r\n\r\n"), "223 0\n");
    }

    private static void theDraftIsEmptyThen() {
        Probe.sentence("Promise 9", "the draft is empty then, and nothing is typed");
        Probe p = new Probe();
        p.send(0, REQUEST);
        for (int i = 0; i < 4; i++) {
            p.match(Probe.METHOD, Probe.EQUAL, "X");
        }
        p.type("t");
        p.server.stub(0, 200);
        Probe.due("no matcher is left", p.server.count(), 1);
        Probe.due("nothing is left of it", p.server.match(Probe.PARAMETER, Probe.PRESENT), false);
        Probe.due("nothing is typed", p.typed(), "");
        Probe.due("the stub keeps its matchers", p.ask("X / H1\r\n\r\n"), "200 0\n");
        p.server.remove(1);
        Probe.due("and its template", p.ask("X / H1\r\n\r\n"), "200 1\nt");
    }

    private static void wrongPriorities() {
        Probe.sentence("Promise 9", "-1, refused, if priority is not 0 .. 9");
        StubServer x = new StubServer();
        for (int far : FAR) {
            Probe.due("stub(" + far + ", 200)", x.stub(far, 200), -1);
        }
        int id = 0;
        for (int priority = -3; priority <= 12; priority++) {
            boolean good = priority >= 0 && priority <= 9;
            Probe.due("stub(" + priority + ", 200)", x.stub(priority, 200), good ? id : -1);
            if (good) {
                x.remove(id);
                id++;
            }
        }
    }

    private static void wrongStatuses() {
        Probe.sentence("Promise 9", "status not 100 .. 599");
        StubServer x = new StubServer();
        for (int far : FAR) {
            Probe.due("stub(0, " + far + ")", x.stub(0, far), -1);
        }
        int[] statuses = {0, 1, 10, 98, 99, 100, 101, 404, 598, 599, 600, 601, 999};
        int id = 0;
        for (int status : statuses) {
            boolean good = status >= 100 && status <= 599;
            Probe.due("stub(0, " + status + ")", x.stub(0, status), good ? id : -1);
            id += good ? 1 : 0;
        }
        Probe p = new Probe();
        p.stub(5, 100, "");
        Probe.due("the lowest", p.ask(REQUEST), "100 0\n");
        p.stub(5, 599, "");
        Probe.due("the highest", p.ask(REQUEST), "599 0\n");
    }

    private static void thereAreEight() {
        Probe.sentence("Promise 9", "or there are 8");
        Probe p = new Probe();
        for (int id = 0; id < 8; id++) {
            Probe.due("stub " + id, p.server.stub(5, 200 + id), id);
        }
        p.match(Probe.METHOD, Probe.EQUAL, "G");
        p.type("t");
        Probe.due("the ninth", p.server.stub(5, 300), -1);
        Probe.due("it changes nothing", p.ask(REQUEST), "207 0\n");
        Probe.due("remove(3)", p.server.remove(3), true);
        Probe.due("there are 7 then, and no ID was used up", p.server.stub(5, 300), 8);
        Probe.due("what was typed stayed", p.ask(REQUEST), "300 1\nt");
        Probe.due("the draft too", p.ask("X / H1\r\n\r\n"), "207 0\n");
        Probe.due("there are 8 again", p.server.stub(5, 300), -1);
    }

    private static void removing() {
        Probe.sentence("Promise 11", "Stub id is gone");
        Probe p = new Probe();
        p.stub(0, 200, "a");
        p.stub(1, 201, "b");
        p.stub(2, 202, "c");
        p.server.scene(0, 0, 0, 2);
        p.ask(REQUEST);
        Probe.due("remove(1)", p.server.remove(1), true);
        Probe.due("it is gone", p.ask(REQUEST), "202 1\nc");
        Probe.due("not near", p.server.near(0), 200);
        Probe.due("remove(0)", p.server.remove(0), true);
        Probe.due("no scene for it", p.server.scene(0, 0, 0, 0), false);
        Probe.due("its scenario stays", p.server.state(0), 2);
        Probe.due("remove(2)", p.server.remove(2), true);
        Probe.due("none is left", p.ask(REQUEST), "404 0\n");
        Probe.due("none is near", p.server.near(0), -1);
        Probe.due("the ID behind all", p.stub(0, 203, ""), 3);
    }

    private static void theJournalKeepsItsId() {
        Probe.sentence("Promise 11", "(the journal keeps its ID)");
        Probe p = new Probe();
        for (int id = 0; id < 3; id++) {
            p.stub(5, 200, "");
            p.send(0, REQUEST);
        }
        for (int id = 0; id < 3; id++) {
            p.server.remove(id);
        }
        for (int id = 0; id < 3; id++) {
            Probe.due("chosen(" + id + ")", p.server.chosen(id), id);
        }
        Probe.due("the requests stay", p.server.journal(), 3);
        Probe.due("and are counted", p.server.count(), 3);
    }

    private static void removingNone() {
        Probe.sentence("Promise 11", "false if there is none");
        Probe p = new Probe();
        Probe.due("none at all", p.server.remove(0), false);
        p.stub(0, 200, "");
        p.stub(0, 201, "");
        int[] wrong = {-1, 2, 3, 8, Probe.LOWEST, Probe.HIGHEST};
        for (int id : wrong) {
            Probe.due("remove(" + id + ")", p.server.remove(id), false);
        }
        Probe.due("the others stay", p.ask(REQUEST), "201 0\n");
        Probe.due("remove(0)", p.server.remove(0), true);
        Probe.due("it is gone already", p.server.remove(0), false);
        Probe.due("the last ID", p.server.remove(1), true);
        Probe.due("is gone too", p.server.remove(1), false);
    }
}
