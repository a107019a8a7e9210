/** The term SCENARIOS, and promises 10 and 17: scene and state. */
public final class SceneTest {
    private static final String REQUEST = Probe.REQUEST;
    private static final int[] FAR = {-1000, 1000, Probe.LOWEST, Probe.HIGHEST};

    public static void main(String[] args) {
        maybeAScene();
        inItsState();
        theNewState();
        onlyTheChosenOneMoves();
        insteadOfTheOneBefore();
        fromNowOn();
        noSuchStub();
        wrongScenarios();
        wrongStates();
        states();
        noState();
        Probe.end();
    }

    private static void maybeAScene() {
        Probe.sentence("Term SCENARIOS", "and maybe a SCENE: a scenario, the state that it must be in, and the state that it gets.");
        Probe p = new Probe();
        p.stub(5, 200, "no scene");
        p.stub(4, 201, "scene");
        p.server.scene(1, 2, 0, 3);
        Probe.due("in its state", p.ask(REQUEST), "201 5\nscene");
        for (int i = 0; i < 3; i++) {
            Probe.due("without a scene in any state", p.ask(REQUEST), "200 8\nno scene");
            Probe.due("which moves none", p.server.state(2), 3);
        }
        Probe.due("a scene is a condition", p.server.near(0), 0);
        p.server.remove(0);
        Probe.due("which is missed", p.server.near(0), 101);
    }

    private static void inItsState() {
        Probe.sentence("Term SCENARIOS", "and whose scenario, if it has a scene, is in its state");
        for (int scenario = 0; scenario <= 2; scenario++) {
            for (int state = 0; state <= 3; state++) {
                Probe p = new Probe();
                p.stub(0, 200, "once");
                p.server.scene(0, scenario, 0, state);
                p.ask(REQUEST);
                p.server.remove(0);
                for (int need = 0; need <= 3; need++) {
                    int id = p.stub(5, 201, "in");
                    p.server.scene(id, scenario, need, state);
                    Probe.due("need " + need + " in " + state, p.ask(REQUEST), need == state ? "201 2\nin" : "404 0\n");
                    p.server.remove(id);
                }
            }
        }
        Probe p = new Probe();
        p.stub(0, 200, "scene");
        p.server.scene(0, 1, 1, 1);
        p.stub(9, 201, "none");
        Probe.due("another one instead", p.ask(REQUEST), "201 4\nnone");
    }

    private static void theNewState() {
        Probe.sentence("Term SCENARIOS", "its scenario gets the new state");
        for (int scenario = 0; scenario <= 2; scenario++) {
            for (int next = 0; next <= 3; next++) {
                Probe p = new Probe();
                p.stub(0, 200, "");
                p.server.scene(0, scenario, 0, next);
                p.ask(REQUEST);
                for (int other = 0; other <= 2; other++) {
                    Probe.due("state(" + other + ")", p.server.state(other), other == scenario ? next : 0);
                }
                Probe.due("chosen again", p.ask(REQUEST), next == 0 ? "200 0\n" : "404 0\n");
            }
        }
        Probe p = new Probe();
        for (int state = 0; state <= 3; state++) {
            p.stub(0, 200 + state, "");
            p.server.scene(state, 2, state, (state + 1) % 4);
        }
        for (int i = 0; i < 9; i++) {
            Probe.due("round and round", p.ask(REQUEST), "20" + i % 4 + " 0\n");
            Probe.due("its state", p.server.state(2), (i + 1) % 4);
        }
    }

    private static void onlyTheChosenOneMoves() {
        Probe.sentence("Term SCENARIOS", "is CHOSEN; its scenario gets the new state");
        Probe p = new Probe();
        p.stub(1, 200, "");
        p.server.scene(0, 0, 0, 1);
        p.stub(0, 201, "");
        p.server.scene(1, 1, 0, 2);
        p.match(Probe.METHOD, Probe.EQUAL, "X");
        p.stub(0, 202, "");
        p.server.scene(2, 2, 0, 3);
        p.ask(REQUEST);
        Probe.due("a higher priority", p.server.state(0), 0);
        Probe.due("the chosen one", p.server.state(1), 2);
        Probe.due("a matcher that does not hold", p.server.state(2), 0);
        p.ask("Y /?a=% H1\r\n");
        Probe.due("a refused request moves none", p.server.state(0), 0);
        p.server.near(0);
        p.server.count();
        Probe.due("nor does asking", p.server.state(0), 0);
        p.ask(REQUEST);
        Probe.due("then this one", p.server.state(0), 1);
    }

    private static void insteadOfTheOneBefore() {
        Probe.sentence("Promise 10", "Stub id has the scene from now on, instead of the one that it may have had");
        Probe p = new Probe();
        p.stub(0, 200, "");
        Probe.due("a scene", p.server.scene(0, 1, 3, 1), true);
        Probe.due("it is missed", p.ask(REQUEST), "404 0\n");
        Probe.due("another one", p.server.scene(0, 2, 0, 2), true);
        Probe.due("it holds", p.ask(REQUEST), "200 0\n");
        Probe.due("its own scenario", p.server.state(2), 2);
        Probe.due("not the one before", p.server.state(1), 0);
        Probe.due("one condition, not two", p.server.near(0), 1);
        Probe.due("the same again", p.server.scene(0, 2, 2, 0), true);
        Probe.due("it holds again", p.ask(REQUEST), "200 0\n");
        Probe.due("moved back", p.server.state(2), 0);
    }

    private static void fromNowOn() {
        Probe.sentence("Promise 10", "Stub id has the scene from now on");
        Probe p = new Probe();
        for (int id = 0; id < 8; id++) {
            p.stub(9 - id, 200 + id, "");
        }
        for (int id = 7; id >= 0; id--) {
            Probe.due("scene of " + id, p.server.scene(id, 0, 1, 1), true);
            Probe.due("the next one", p.ask(REQUEST), id == 0 ? "404 0\n" : "20" + (id - 1) + " 0\n");
        }
        Probe.due("a scene alone changes no state", p.server.state(0), 0);
    }

    private static void noSuchStub() {
        Probe.sentence("Promise 10", "false if there is no such stub");
        Probe p = new Probe();
        Probe.due("none at all", p.server.scene(0, 0, 0, 0), false);
        p.stub(0, 200, "");
        p.stub(0, 201, "");
        int[] wrong = {-1, 2, 3, Probe.LOWEST, Probe.HIGHEST};
        for (int id : wrong) {
            Probe.due("scene(" + id + ", 0, 1, 1)", p.server.scene(id, 0, 1, 1), false);
        }
        Probe.due("no stub has it", p.ask(REQUEST), "201 0\n");
        Probe.due("the first ID", p.server.scene(0, 0, 1, 1), true);
        Probe.due("the last ID", p.server.scene(1, 0, 1, 1), true);
        p.server.remove(1);
        Probe.due("a gone one", p.server.scene(1, 0, 0, 0), false);
    }

    private static void wrongScenarios() {
        Probe.sentence("Promise 10", "scenario is not 0 .. 2");
        Probe p = new Probe();
        p.stub(0, 200, "");
        for (int far : FAR) {
            Probe.due("scenario " + far, p.server.scene(0, far, 1, 1), false);
        }
        for (int scenario = 5; scenario >= -3; scenario--) {
            boolean good = scenario >= 0 && scenario <= 2;
            Probe.due("scenario " + scenario, p.server.scene(0, scenario, 0, 1), good);
        }
        Probe.due("the scene of the last good one stayed", p.ask(REQUEST), "200 0\n");
        Probe.due("state(0)", p.server.state(0), 1);
        Probe.due("state(1)", p.server.state(1), 0);
        Probe.due("state(2)", p.server.state(2), 0);
    }

    private static void wrongStates() {
        Probe.sentence("Promise 10", "or a state is not 0 .. 3");
        Probe p = new Probe();
        p.stub(0, 200, "");
        p.server.scene(0, 1, 0, 0);
        for (int far : FAR) {
            Probe.due("need " + far, p.server.scene(0, 0, far, 0), false);
            Probe.due("next " + far, p.server.scene(0, 0, 0, far), false);
        }
        for (int state = -3; state <= 6; state++) {
            boolean good = state >= 0 && state <= 3;
            Probe.due("need " + state, p.server.scene(0, 0, state, 0), good);
            Probe.due("next " + state, p.server.scene(0, 0, 0, state), good);
            Probe.due("both " + state, p.server.scene(0, 0, state, state), good);
        }
        Probe.due("the scene of the last good one stayed", p.ask(REQUEST), "404 0\n");
        Probe.due("it is needed", p.server.near(0), 1);
    }

    private static void states() {
        Probe.sentence("Promise 17", "The state of a scenario");
        Probe p = new Probe();
        for (int scenario = 0; scenario < 3; scenario++) {
            Probe.due("at first", p.server.state(scenario), 0);
            int id = p.stub(0, 200, "");
            p.server.scene(id, scenario, 0, 3 - scenario);
            p.ask(REQUEST);
            Probe.due("state(" + scenario + ")", p.server.state(scenario), 3 - scenario);
        }
        Probe.due("the first stays", p.server.state(0), 3);
        p.server.reset();
        for (int scenario = 0; scenario < 3; scenario++) {
            Probe.due("behind reset", p.server.state(scenario), 0);
        }
    }

    private static void noState() {
        Probe.sentence("Promise 17", "-1 if it is not 0 .. 2");
        StubServer x = new StubServer();
        for (int far : FAR) {
            Probe.due("state(" + far + ")", x.state(far), -1);
        }
        for (int scenario = -3; scenario <= 5; scenario++) {
            Probe.due("state(" + scenario + ")", x.state(scenario), scenario >= 0 && scenario <= 2 ? 0 : -1);
        }
    }
}
