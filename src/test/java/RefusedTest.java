import java.util.function.Consumer;
import java.util.function.Function;

/**
 * "A call that is refused changes nothing." Two servers are told the same, then one of them alone gets
 * a call that is refused: whatever is asked of the two behind that, they must answer the same. The
 * questions that change something themselves are asked of new pairs.
 */
public final class RefusedTest {
    private static final String WORDS = "A call that is refused changes nothing.";
    private static final int GONE = 1;
    private static final int NEVER_THERE = 77;

    public static void main(String[] args) {
        sending();
        opening();
        typing();
        typingTooMuch();
        matching();
        matchingWrongTexts();
        matchingAFifth();
        makingStubs();
        makingANinth();
        settingScenes();
        removing();
        asking();
        Probe.end();
    }

    // How a server may stand when a call is refused.

    private static void nothing(Probe p) {
        Probe.due("a new object", p.server.served(), 0);
    }

    /** Some of everything; connection 0 within a request, 1 within a body, 2 closed. */
    private static void some(Probe p, String typed) {
        p.match(Probe.METHOD, Probe.EQUAL, "G");
        p.stub(3, 200, "{n}{p}");
        p.server.scene(0, 0, 0, 2);
        p.stub(2, 201, "gone");
        p.server.remove(GONE);
        p.stub(4, 202, "{b}");
        p.server.scene(2, 1, 0, 0);
        p.send(0, Probe.REQUEST + "G /a?b=c H");
        p.send(1, Probe.REQUEST + Probe.GET + "len:4\r\n\r\nb");
        p.send(2, "X / H1\r\nconn:close\r\n\r\n");
        p.match(Probe.PATH, Probe.CONTAINS, "/");
        p.type(typed);
    }

    private static void some(Probe p) {
        some(p, "t {m}");
    }

    /** Nothing has room for more; connection 0 within a header, 1 within a chunk, 2 closed. */
    private static void full(Probe p) {
        for (int id = 0; id < 9; id++) {
            p.match(Probe.METHOD, Probe.EQUAL, id % 2 == 0 ? "G" : "X");
            p.stub(id, 200 + id, "s" + id + "{n}");
            if (id == GONE) {
                p.server.remove(GONE);
            }
        }
        p.server.scene(0, 0, 0, 3);
        p.server.scene(3, 1, 0, 1);
        p.send(1, Probe.REQUEST + "X / H1\r\n\r\n" + Probe.REQUEST + Probe.REQUEST + Probe.REQUEST + Probe.REQUEST);
        p.send(0, Probe.REQUEST + Probe.GET + "a:1\r\nb:2\r\nc:");
        p.send(1, Probe.GET + "chunked:yes\r\n\r\n2\r\nz");
        p.send(2, Probe.times("L", 41));
        for (int i = 0; i < 4; i++) {
            p.match(Probe.METHOD, Probe.EQUAL, "G");
        }
        p.type("n " + Probe.times("t", 38));
    }

    // What a server can be asked.

    private static String now(Probe p) {
        StringBuilder all = new StringBuilder();
        for (int c = 0; c < 3; c++) {
            all.append(p.server.isOpen(c)).append(p.response(c)).append(';');
        }
        all.append(p.server.journal()).append(',').append(p.server.served()).append(';');
        for (int k = 0; k <= 5; k++) {
            all.append(p.server.chosen(k)).append(',').append(p.server.near(k)).append(';');
        }
        for (int scenario = 0; scenario < 3; scenario++) {
            all.append(p.server.state(scenario)).append(';');
        }
        return all.toString();
    }

    private static String readingOn(Probe p) {
        StringBuilder all = new StringBuilder();
        String[] rest = {"1\r\n\r\n", "cde\r\n0\r\n\r\n", "G"};
        for (int c = 0; c < 3; c++) {
            all.append(p.send(c, rest[c])).append(';');
        }
        return all + now(p);
    }

    private static String draft(Probe p) {
        int held = p.server.count();
        return held + ";" + p.server.count() + ";" + p.typed();
    }

    private static String nextStub(Probe p) {
        StringBuilder all = new StringBuilder();
        for (int id = 0; id < 3; id++) {
            all.append(p.server.remove(id));
        }
        all.append(p.server.stub(0, 299)).append(';').append(p.server.near(0)).append(';');
        all.append(p.ask(Probe.REQUEST)).append(p.ask("X /y H1\r\n\r\n"));
        return all + now(p);
    }

    private static String roomLeft(Probe p) {
        int characters = 0;
        while (characters < 50 && p.server.type('a', 1)) {
            characters++;
        }
        int matchers = 0;
        while (matchers < 5 && p.server.match(Probe.METHOD, Probe.CONTAINS)) {
            matchers++;
        }
        int stubs = 0;
        while (stubs < 9 && p.server.stub(9, 298) >= 0) {
            stubs++;
        }
        return characters + ";" + matchers + ";" + stubs + ";" + now(p);
    }

    private static String answers(Probe p) {
        StringBuilder all = new StringBuilder();
        String[] requests = {Probe.REQUEST, Probe.REQUEST, "X / H1\r\n\r\n", "X / H1\r\n\r\n"};
        for (String request : requests) {
            all.append(p.ask(request)).append(p.server.state(0)).append(p.server.state(1)).append(';');
        }
        for (int id = 0; id < 10; id++) {
            all.append(p.server.remove(id)).append(p.ask(Probe.REQUEST)).append(';');
        }
        return all.toString();
    }

    private static String behindReset(Probe p) {
        return p.server.reset() + ";" + now(p);
    }

    private static void compare(String what, Consumer<Probe> start, Function<StubServer, Object> call, Object answer,
            Function<Probe, String> look) {
        Probe told = new Probe();
        Probe spared = new Probe();
        start.accept(told);
        start.accept(spared);
        Probe.due(what, call.apply(told.server), answer);
        Probe.due(what + " a second time", call.apply(told.server), answer);
        Probe.due("what is shown behind " + what, look.apply(told), look.apply(spared));
    }

    private static void refused(String what, Consumer<Probe> start, Function<StubServer, Object> call, Object answer) {
        compare(what, start, call, answer, RefusedTest::now);
        compare(what, start, call, answer, RefusedTest::readingOn);
        compare(what, start, call, answer, RefusedTest::draft);
        compare(what, start, call, answer, RefusedTest::nextStub);
        compare(what, start, call, answer, RefusedTest::roomLeft);
        compare(what, start, call, answer, RefusedTest::answers);
        compare(what, start, call, answer, RefusedTest::behindReset);
    }

    private static void refusedAnyhow(String what, Function<StubServer, Object> call, Object answer) {
        refused(what + " of a new one", RefusedTest::nothing, call, answer);
        refused(what + " of a used one", RefusedTest::some, call, answer);
        refused(what + " of a full one", RefusedTest::full, call, answer);
    }

    private static void sending() {
        Probe.sentence("Terms", WORDS);
        int[] wrongConnections = {-1, 3, Probe.LOWEST, Probe.HIGHEST};
        for (int c : wrongConnections) {
            refusedAnyhow("send(" + c + ", 65, 1)", x -> x.send(c, 65, 1), -1);
            refusedAnyhow("send(" + c + ", 10, 1)", x -> x.send(c, 10, 1), -1);
        }
        int[] wrongNumbers = {0, 5, -1, Probe.LOWEST, Probe.HIGHEST};
        for (int n : wrongNumbers) {
            for (int c = 0; c < 3; c++) {
                int there = c;
                refusedAnyhow("send(" + c + ", word, " + n + ")", x -> x.send(there, 0x41424344, n), -1);
                refusedAnyhow("send(" + c + ", 10, " + n + ")", x -> x.send(there, 10, n), -1);
            }
        }
        for (int n = 1; n <= 4; n++) {
            int many = n;
            refused("send to a closed one", RefusedTest::some, x -> x.send(2, 0x41424344, many), -1);
            refused("send to a closed one", RefusedTest::full, x -> x.send(2, 0x0D0A0D0A, many), -1);
        }
    }

    private static void opening() {
        Probe.sentence("Terms", WORDS);
        int[] wrong = {-1, 3, Probe.LOWEST, Probe.HIGHEST};
        for (int c : wrong) {
            refusedAnyhow("open(" + c + ")", x -> x.open(c), false);
        }
    }

    private static void typing() {
        Probe.sentence("Terms", WORDS);
        int[] wrong = {0, 5, -1, Probe.LOWEST, Probe.HIGHEST};
        for (int n : wrong) {
            refusedAnyhow("type(word, " + n + ")", x -> x.type(0x41424344, n), false);
        }
        int[] bad = {0, 10, 31, 127, 255};
        for (int b : bad) {
            for (int place = 0; place < 4; place++) {
                int word = 0x41424344 & ~(255 << 8 * place) | b << 8 * place;
                refusedAnyhow("type(" + Integer.toHexString(word) + ", 4)", x -> x.type(word, 4), false);
            }
            refusedAnyhow("type(" + b + ", 1)", x -> x.type(b, 1), false);
        }
    }

    private static void typingTooMuch() {
        Probe.sentence("Terms", WORDS);
        for (int n = 1; n <= 4; n++) {
            int many = n;
            refused("type(word, " + n + ")", RefusedTest::full, x -> x.type(0x41424344, many), false);
            refused("type(word, " + n + ")", p -> some(p, Probe.times("t", 41 - many)), x -> x.type(0x41424344, many), false);
        }
    }

    private static void matching() {
        Probe.sentence("Terms", WORDS);
        int[] wrong = {-1, 5, Probe.LOWEST, Probe.HIGHEST};
        for (int w : wrong) {
            for (int other = 0; other <= 4; other++) {
                int good = other;
                refusedAnyhow("match(" + w + ", " + good + ")", x -> x.match(w, good), false);
                refusedAnyhow("match(" + good + ", " + w + ")", x -> x.match(good, w), false);
            }
        }
        int[] unnamed = {Probe.METHOD, Probe.PATH, Probe.BODY};
        for (int part : unnamed) {
            refusedAnyhow("match(" + part + ", 3)", x -> x.match(part, Probe.ABSENT), false);
            refusedAnyhow("match(" + part + ", 4)", x -> x.match(part, Probe.PRESENT), false);
        }
    }

    private static void dueRefusedText(String typed, int part, int way) {
        refused("match(" + part + ", " + way + ") of [" + typed + "]", p -> some(p, typed), x -> x.match(part, way), false);
    }

    private static void matchingWrongTexts() {
        Probe.sentence("Terms", WORDS);
        String[] noNames = {"", " ", " a"};
        String[] noPatterns = {"*", "a**", "[", "[]", "a]"};
        for (int part = Probe.PARAMETER; part <= Probe.HEADER; part++) {
            for (int way = Probe.EQUAL; way <= Probe.PRESENT; way++) {
                for (String typed : noNames) {
                    dueRefusedText(typed, part, way);
                }
                dueRefusedText(way < Probe.ABSENT ? "nospace" : "a space", part, way);
            }
            for (String text : noPatterns) {
                dueRefusedText("n " + text, part, Probe.FITS);
            }
        }
        for (String text : noPatterns) {
            dueRefusedText(text, Probe.METHOD, Probe.FITS);
            dueRefusedText(text, Probe.PATH, Probe.FITS);
            dueRefusedText(text, Probe.BODY, Probe.FITS);
        }
    }

    private static void matchingAFifth() {
        Probe.sentence("Terms", WORDS);
        for (int part = 0; part <= 4; part++) {
            for (int way = Probe.EQUAL; way <= Probe.FITS; way++) {
                int asked = part;
                int as = way;
                refused("match(" + part + ", " + way + ") as a fifth", RefusedTest::full, x -> x.match(asked, as), false);
            }
        }
    }

    private static void makingStubs() {
        Probe.sentence("Terms", WORDS);
        int[] wrongPriorities = {-1, 10, Probe.LOWEST, Probe.HIGHEST};
        for (int priority : wrongPriorities) {
            refusedAnyhow("stub(" + priority + ", 200)", x -> x.stub(priority, 200), -1);
        }
        int[] wrongStatuses = {99, 600, 0, Probe.LOWEST, Probe.HIGHEST};
        for (int status : wrongStatuses) {
            refusedAnyhow("stub(0, " + status + ")", x -> x.stub(0, status), -1);
        }
    }

    private static void makingANinth() {
        Probe.sentence("Terms", WORDS);
        for (int priority = 0; priority <= 9; priority++) {
            int asked = priority;
            refused("stub(" + priority + ", 200) as a ninth", RefusedTest::full, x -> x.stub(asked, 200), -1);
        }
    }

    private static void settingScenes() {
        Probe.sentence("Terms", WORDS);
        int[] wrongIds = {-1, GONE, NEVER_THERE, Probe.LOWEST, Probe.HIGHEST};
        for (int id : wrongIds) {
            refusedAnyhow("scene(" + id + ", 0, 1, 1)", x -> x.scene(id, 0, 1, 1), false);
        }
        int[] wrongScenarios = {-1, 3, Probe.LOWEST, Probe.HIGHEST};
        for (int scenario : wrongScenarios) {
            refusedAnyhow("scene(0, " + scenario + ", 1, 1)", x -> x.scene(0, scenario, 1, 1), false);
            refusedAnyhow("scene(2, " + scenario + ", 1, 1)", x -> x.scene(2, scenario, 1, 1), false);
        }
        int[] wrongStates = {-1, 4, Probe.LOWEST, Probe.HIGHEST};
        for (int state : wrongStates) {
            for (int id = 0; id <= 2; id += 2) {
                int there = id;
                refusedAnyhow("scene(" + id + ", 1, " + state + ", 1)", x -> x.scene(there, 1, state, 1), false);
                refusedAnyhow("scene(" + id + ", 1, 1, " + state + ")", x -> x.scene(there, 1, 1, state), false);
            }
        }
    }

    private static void removing() {
        Probe.sentence("Terms", WORDS);
        int[] wrong = {-1, GONE, NEVER_THERE, Probe.LOWEST, Probe.HIGHEST};
        for (int id : wrong) {
            refusedAnyhow("remove(" + id + ")", x -> x.remove(id), false);
        }
    }

    private static void asking() {
        Probe.sentence("Terms", WORDS);
        int[] wrong = {-1, 5, Probe.LOWEST, Probe.HIGHEST};
        for (int w : wrong) {
            refusedAnyhow("isOpen(" + w + ")", x -> x.isOpen(w), false);
            refusedAnyhow("size(" + w + ")", x -> x.size(w), 0);
            refusedAnyhow("at(" + w + ", 0)", x -> x.at(w, 0), -1);
            refusedAnyhow("chosen(" + w + ")", x -> x.chosen(w), -2);
            refusedAnyhow("near(" + w + ")", x -> x.near(w), -1);
            refusedAnyhow("state(" + w + ")", x -> x.state(w), -1);
        }
        refusedAnyhow("at(0, -1)", x -> x.at(0, -1), -1);
        refusedAnyhow("at(0, 1000)", x -> x.at(0, 1000), -1);
    }
}
