/** Promises 12 and 14 to 18: reset, journal, chosen, near, state, served. */
public final class JournalTest {
    private static final int[] NEVER = {-1, 5, 6, Integer.MIN_VALUE, Integer.MAX_VALUE};

    public static void main(String[] args) {
        latestFive();
        onlyWhatIsServed();
        resetting();
        nearestByMatchers();
        nearestByScenes();
        nearestOfEquals();
        states();
        Probe.end();
    }

    private static void latestFive() {
        Probe p = new Probe();
        for (int i = 0; i < 8; i++) {
            p.stub(9 - i, 200, "");
            p.send(i % 3, Probe.GET + "\r\n");
            int rows = Math.min(5, i + 1);
            Probe.due("journal()", p.server.journal(), rows);
            Probe.due("served()", p.server.served(), i + 1);
            for (int k = 0; k < rows; k++) {
                Probe.due("chosen(" + k + ")", p.server.chosen(k), i + 1 - rows + k);
            }
            Probe.due("chosen behind them", p.server.chosen(rows), -2);
            Probe.due("near behind them", p.server.near(rows), -1);
        }
        for (int k : NEVER) {
            Probe.due("chosen(" + k + ")", p.server.chosen(k), -2);
            Probe.due("near(" + k + ")", p.server.near(k), -1);
        }
    }

    private static void onlyWhatIsServed() {
        Probe p = new Probe();
        p.match(Probe.METHOD, Probe.EQUAL, "A");
        p.stub(0, 200, "");
        p.ask("A / H1\r\n\r\n");
        p.ask("B / H1\r\n\r\n");
        p.ask("A /\r\n");
        p.ask("A / H1\r\n");
        Probe.due("journal()", p.server.journal(), 2);
        Probe.due("served()", p.server.served(), 2);
        Probe.due("chosen(0)", p.server.chosen(0), 0);
        Probe.due("chosen(1)", p.server.chosen(1), -1);
        Probe.due("chosen(2)", p.server.chosen(2), -2);
    }

    private static void resetting() {
        Probe p = new Probe();
        p.type("t");
        p.match(Probe.METHOD, Probe.EQUAL, "");
        p.server.count();
        p.stub(0, 200, "{n}");
        p.server.scene(0, 0, 0, 1);
        p.match(Probe.METHOD, Probe.EQUAL, "G");
        p.stub(1, 201, "");
        p.server.scene(1, 1, 0, 2);
        p.stub(2, 202, "");
        p.server.scene(2, 2, 0, 3);
        for (int i = 0; i < 3; i++) {
            p.ask(Probe.GET + "\r\n");
            Probe.due("state(" + i + ")", p.server.state(i), i + 1);
        }
        p.match(Probe.METHOD, Probe.EQUAL, "G");
        p.type("kept");
        p.send(1, "G /");
        Probe.due("reset()", p.server.reset(), 3);
        Probe.due("journal()", p.server.journal(), 0);
        Probe.due("chosen(0)", p.server.chosen(0), -2);
        Probe.due("near(0)", p.server.near(0), -1);
        for (int i = 0; i < 3; i++) {
            Probe.due("state(" + i + ")", p.server.state(i), 0);
        }
        Probe.due("served()", p.server.served(), 3);
        Probe.due("reset() of none", p.server.reset(), 0);
        Probe.due("responses stay", p.response(0), "202 0\n");
        Probe.due("what is read stays", p.answer(1, " H1\r\n\r\n"), "200 1\n4");
        Probe.due("the draft stays", p.server.stub(0, 203), 3);
        Probe.due("what is typed stays", p.ask(Probe.GET + "\r\n"), "203 4\nkept");
        Probe.due("with its matcher", p.ask("X / H1\r\n\r\n"), "202 0\n");
        for (int i = 0; i < 9; i++) {
            p.ask(Probe.GET + "\r\n");
        }
        Probe.due("reset() of a full one", p.server.reset(), 5);
    }

    private static void nearestByMatchers() {
        Probe p = new Probe();
        p.ask("G /a H1\r\n\r\n");
        Probe.due("no stub", p.server.near(0), -1);
        for (int missed = 4; missed >= 1; missed--) {
            for (int i = 0; i < 4; i++) {
                p.match(Probe.METHOD, Probe.EQUAL, i < missed ? "X" : "G");
            }
            int id = p.stub(missed == 1 ? 9 : 0, 200, "");
            Probe.due("fewest missed", p.server.near(0), 100 * id + missed);
        }
        p.ask("X / H1\r\n\r\n");
        Probe.due("another request", p.server.near(1), 0);
        Probe.due("the same request", p.server.near(0), 301);
        p.server.remove(3);
        Probe.due("a stub less", p.server.near(0), 202);
        p.stub(9, 200, "");
        Probe.due("a stub that came later", p.server.near(0), 400);
        Probe.due("chosen stays", p.server.chosen(0), -1);
    }

    private static void nearestByScenes() {
        Probe p = new Probe();
        p.match(Probe.METHOD, Probe.EQUAL, "X");
        p.stub(0, 200, "");
        p.server.scene(0, 0, 1, 0);
        p.ask(Probe.GET + "\r\n");
        Probe.due("matcher and scene", p.server.near(0), 2);
        p.server.scene(0, 0, 0, 0);
        Probe.due("the scene holds", p.server.near(0), 1);
        p.stub(5, 200, "");
        p.server.scene(1, 0, 0, 2);
        Probe.due("nothing missed", p.server.near(0), 100);
        p.ask(Probe.GET + "\r\n");
        Probe.due("as scenarios are now", p.server.near(0), 101);
        Probe.due("for both requests", p.server.near(1), 101);
        p.server.remove(0);
        Probe.due("the scene is missed", p.server.near(0), 101);
        p.server.reset();
        p.ask(Probe.GET + "\r\n");
        p.server.reset();
        Probe.due("no request", p.server.near(0), -1);
        for (int i = 0; i < 4; i++) {
            p.match(Probe.METHOD, Probe.EQUAL, "X");
        }
        p.server.remove(1);
        int id = p.stub(0, 200, "");
        p.server.scene(id, 1, 3, 3);
        p.ask(Probe.GET + "\r\n");
        Probe.due("five are missed", p.server.near(0), 100 * id + 5);
    }

    private static void nearestOfEquals() {
        Probe p = new Probe();
        int[] priorities = {4, 4, 6, 2, 2, 3};
        int[] nearest = {0, 1, 1, 3, 4, 4};
        p.ask(Probe.GET + "\r\n");
        for (int i = 0; i < priorities.length; i++) {
            p.match(Probe.PATH, Probe.EQUAL, "x");
            p.stub(priorities[i], 200, "");
            Probe.due("lowest priority, highest ID", p.server.near(0), 100 * nearest[i] + 1);
        }
        p.match(Probe.PATH, Probe.EQUAL, "x");
        p.match(Probe.PATH, Probe.EQUAL, "y");
        p.stub(0, 200, "");
        Probe.due("missed goes before priority", p.server.near(0), 401);
    }

    private static void states() {
        Probe p = new Probe();
        int[] wrong = {-1, 3, Integer.MIN_VALUE, Integer.MAX_VALUE};
        for (int scenario : wrong) {
            Probe.due("state(" + scenario + ")", p.server.state(scenario), -1);
        }
        for (int scenario = 0; scenario < 3; scenario++) {
            int id = p.stub(0, 200, "");
            p.server.scene(id, scenario, 0, scenario + 1);
            p.ask(Probe.GET + "\r\n");
            Probe.due("state(" + scenario + ")", p.server.state(scenario), scenario + 1);
        }
    }
}
