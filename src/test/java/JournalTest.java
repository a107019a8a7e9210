/** The term JOURNAL, and promises 12, 14 to 16 and 18: reset, journal, chosen, near, served. */
public final class JournalTest {
    private static final int[] NEVER = {-1, 5, -2, 6, Probe.LOWEST, Probe.HIGHEST};

    public static void main(String[] args) {
        latestFive();
        onlyWhatIsServed();
        resetting();
        resettingLeavesTheRest();
        howManyItHad();
        howManyItHas();
        chosenOnes();
        noneWasChosen();
        noSuchRequest();
        nearestAsScenariosAreNow();
        fewestMissed();
        eachIsOne();
        nearestOfEquals();
        theNumberItself();
        nothingNear();
        servedSoFar();
        Probe.end();
    }

    private static void latestFive() {
        Probe.sentence("Term JOURNAL", "The request comes into the JOURNAL, which keeps the latest 5 that were served, with the stub's ID.");
        Probe p = new Probe();
        for (int i = 0; i < 8; i++) {
            p.stub(9 - i, 200, "");
            p.send(i % 3, "G /" + i + " H1\r\n\r\n");
            int rows = Math.min(5, i + 1);
            Probe.due("journal()", p.server.journal(), rows);
            for (int k = 0; k < rows; k++) {
                Probe.due("chosen(" + k + ")", p.server.chosen(k), i + 1 - rows + k);
            }
            for (int old = 0; old <= i; old++) {
                Probe.due("/" + old + " is there", p.counted(Probe.PATH, Probe.EQUAL, "/" + old), old > i - 5 ? 1 : 0);
            }
        }
    }

    private static void onlyWhatIsServed() {
        Probe.sentence("Term JOURNAL", "that were served");
        Probe p = new Probe();
        p.match(Probe.METHOD, Probe.EQUAL, "A");
        p.stub(0, 200, "");
        p.ask("A / H1\r\n\r\n");
        p.ask("B / H1\r\n\r\n");
        String[] refused = {"A /\r\n", Probe.times("A", 41), "A / H1\r\nlen:41\r\n", "A / H1\r\n" + Probe.times("h", 33)};
        for (String text : refused) {
            p.ask(text);
        }
        p.ask("A / H1\r\n");
        Probe.due("journal()", p.server.journal(), 2);
        Probe.due("chosen(0)", p.server.chosen(0), 0);
        Probe.due("chosen(1)", p.server.chosen(1), -1);
        Probe.due("chosen(2)", p.server.chosen(2), -2);
    }

    private static void resetting() {
        Probe.sentence("Promise 12", "The journal is emptied and all scenarios are in the state 0 (what served() counts goes on)");
        Probe p = new Probe();
        for (int scenario = 0; scenario < 3; scenario++) {
            p.stub(scenario, 200 + scenario, "{n}");
            p.server.scene(scenario, scenario, 0, scenario + 1);
        }
        for (int i = 0; i < 3; i++) {
            p.ask(Probe.REQUEST);
            Probe.due("state(" + i + ")", p.server.state(i), i + 1);
        }
        Probe.due("reset()", p.server.reset(), 3);
        Probe.due("journal()", p.server.journal(), 0);
        Probe.due("count()", p.server.count(), 0);
        Probe.due("chosen(0)", p.server.chosen(0), -2);
        Probe.due("near(0)", p.server.near(0), -1);
        for (int i = 0; i < 3; i++) {
            Probe.due("state(" + i + ")", p.server.state(i), 0);
        }
        Probe.due("served()", p.server.served(), 3);
        Probe.due("the scenes hold again", p.ask(Probe.REQUEST), "200 1\n4");
        Probe.due("the journal begins anew", p.server.chosen(0), 0);
        Probe.due("served() goes on", p.server.served(), 4);
    }

    private static void resettingLeavesTheRest() {
        Probe.sentence("Promise 12", "The journal is emptied");
        Probe p = new Probe();
        p.stub(2, 200, "{n}");
        p.server.scene(0, 0, 0, 0);
        p.send(0, Probe.REQUEST);
        p.send(1, "G /");
        p.send(2, "\n");
        p.match(Probe.METHOD, Probe.EQUAL, "G");
        p.type("kept");
        p.server.reset();
        Probe.due("responses stay", p.response(0), "200 1\n1");
        Probe.due("a closed one stays closed", p.server.isOpen(2), false);
        Probe.due("what is read stays", p.answer(1, " H1\r\n\r\n"), "200 1\n2");
        Probe.due("the draft stays", p.server.stub(0, 203), 1);
        Probe.due("what is typed stays", p.ask(Probe.REQUEST), "203 4\nkept");
        Probe.due("with its matcher", p.ask("X / H1\r\n\r\n"), "200 1\n4");
    }

    private static void howManyItHad() {
        Probe.sentence("Promise 12", "how many requests the journal had");
        for (int requests = 0; requests <= 8; requests++) {
            Probe p = new Probe();
            for (int i = 0; i < requests; i++) {
                p.send(0, Probe.REQUEST);
            }
            Probe.due("behind " + requests, p.server.reset(), Math.min(5, requests));
            Probe.due("again", p.server.reset(), 0);
            p.send(0, Probe.REQUEST);
            Probe.due("behind one more", p.server.reset(), 1);
        }
    }

    private static void howManyItHas() {
        Probe.sentence("Promise 14", "How many requests the journal has.");
        Probe p = new Probe();
        for (int requests = 0; requests <= 12; requests++) {
            Probe.due("behind " + requests, p.server.journal(), Math.min(5, requests));
            p.send(requests % 3, "G / H1\r\n\r");
            Probe.due("before its last byte", p.server.journal(), Math.min(5, requests));
            p.send(requests % 3, "\n");
        }
        p.server.reset();
        Probe.due("behind reset", p.server.journal(), 0);
    }

    private static void chosenOnes() {
        Probe.sentence("Promise 15", "The ID of the stub that was chosen for request k of the journal (0 is the oldest)");
        Probe p = new Probe();
        for (int id = 0; id < 7; id++) {
            p.match(Probe.PATH, Probe.EQUAL, "/" + id);
            p.stub(0, 200, "");
        }
        int[] asked = {3, 0, 6, 6, 1, 2, 5, 4};
        for (int id : asked) {
            p.send(0, "G /" + id + " H1\r\n\r\n");
        }
        for (int k = 0; k < 5; k++) {
            Probe.due("chosen(" + k + ")", p.server.chosen(k), asked[3 + k]);
        }
        p.server.scene(4, 0, 3, 3);
        Probe.due("as it was then", p.server.chosen(4), 4);
    }

    private static void noneWasChosen() {
        Probe.sentence("Promise 15", "-1 if none was");
        Probe p = new Probe();
        p.send(0, Probe.REQUEST);
        p.match(Probe.METHOD, Probe.EQUAL, "X");
        p.stub(0, 200, "");
        p.send(0, Probe.REQUEST);
        p.send(0, "X / H1\r\n\r\n");
        int[] want = {-1, -1, 0};
        for (int k = 0; k < 3; k++) {
            Probe.due("chosen(" + k + ")", p.server.chosen(k), want[k]);
        }
        p.stub(0, 200, "");
        Probe.due("a stub that came later", p.server.chosen(0), -1);
    }

    private static void noSuchRequest() {
        Probe.sentence("Promise 15", "-2 if there is no such request");
        Probe p = new Probe();
        p.stub(0, 200, "");
        for (int requests = 0; requests <= 7; requests++) {
            int rows = Math.min(5, requests);
            for (int k = -2; k <= 7; k++) {
                Probe.due("chosen(" + k + ") of " + rows, p.server.chosen(k), k >= 0 && k < rows ? 0 : -2);
            }
            for (int k : NEVER) {
                Probe.due("chosen(" + k + ")", p.server.chosen(k), -2);
            }
            p.send(0, Probe.REQUEST);
        }
    }

    private static void nearestAsScenariosAreNow() {
        Probe.sentence("Promise 16", "The stub that comes nearest to request k of the journal, as scenarios are now");
        Probe p = new Probe();
        p.stub(5, 200, "");
        p.server.scene(0, 1, 0, 2);
        p.send(0, Probe.REQUEST);
        Probe.due("its scenario moved", p.server.near(0), 1);
        p.server.scene(0, 1, 2, 0);
        Probe.due("another scene", p.server.near(0), 0);
        p.send(0, Probe.REQUEST);
        Probe.due("it moved back", p.server.near(0), 1);
        Probe.due("for both requests", p.server.near(1), 1);
        Probe.due("asking moves none", p.server.state(1), 0);
        Probe.due("chosen stays", p.server.chosen(0), 0);
    }

    private static void fewestMissed() {
        Probe.sentence("Promise 16", "of those that there are the one with the fewest conditions that do not hold");
        Probe p = new Probe();
        p.ask("G /a H1\r\n\r\n");
        for (int missed = 4; missed >= 1; missed--) {
            for (int i = 0; i < 4; i++) {
                p.match(Probe.METHOD, Probe.EQUAL, i < missed ? "X" : "G");
            }
            int id = p.stub(missed == 1 ? 9 : 0, 200, "");
            Probe.due("fewest missed", p.server.near(0), 100 * id + missed);
        }
        p.ask("X / H1\r\n\r\n");
        Probe.due("another request", p.server.near(1), 0);
        Probe.due("the same request", p.server.near(0), 301);
        p.server.remove(3);
        Probe.due("of those that there are", p.server.near(0), 202);
        p.stub(9, 200, "");
        Probe.due("one that came later", p.server.near(0), 400);
        p.match(Probe.METHOD, Probe.EQUAL, "X");
        p.stub(0, 200, "");
        Probe.due("missed goes before priority", p.server.near(0), 400);
    }

    private static void eachIsOne() {
        Probe.sentence("Promise 16", "(each matcher is one; a scene is one, its scenario being in the state that it must be in)");
        for (int matchers = 0; matchers <= 4; matchers++) {
            for (int missed = 0; missed <= matchers; missed++) {
                Probe p = new Probe();
                p.ask(Probe.REQUEST);
                for (int i = 0; i < matchers; i++) {
                    p.match(Probe.METHOD, Probe.EQUAL, i < missed ? "X" : "G");
                }
                p.stub(0, 200, "");
                Probe.due("no scene", p.server.near(0), missed);
                p.server.scene(0, 2, 0, 3);
                Probe.due("a scene that holds", p.server.near(0), missed);
                p.server.scene(0, 2, 3, 0);
                Probe.due("a scene that does not", p.server.near(0), missed + 1);
            }
        }
    }

    private static void nearestOfEquals() {
        Probe.sentence("Promise 16", "of several the one with the lowest priority, then the highest ID");
        for (int missed = 0; missed <= 2; missed++) {
            Probe p = new Probe();
            int[] priorities = {4, 4, 6, 2, 2, 3, 9, 0};
            int[] nearest = {0, 1, 1, 3, 4, 4, 4, 7};
            p.ask(Probe.REQUEST);
            for (int i = 0; i < priorities.length; i++) {
                for (int m = 0; m < missed; m++) {
                    p.match(Probe.PATH, Probe.EQUAL, "x");
                }
                p.stub(priorities[i], 200, "");
                Probe.due("of " + (i + 1), p.server.near(0), 100 * nearest[i] + missed);
            }
            p.server.remove(7);
            Probe.due("without the lowest", p.server.near(0), 400 + missed);
            p.server.remove(4);
            Probe.due("without the highest ID", p.server.near(0), 300 + missed);
        }
    }

    private static void theNumberItself() {
        Probe.sentence("Promise 16", "100 * its ID + that number");
        Probe p = new Probe();
        p.ask(Probe.REQUEST);
        for (int id = 0; id < 30; id++) {
            p.match(Probe.METHOD, Probe.EQUAL, "X");
            p.stub(0, 200, "");
            Probe.due("stub " + id, p.server.near(0), 100 * id + 1);
            p.server.remove(id);
        }
        for (int i = 0; i < 4; i++) {
            p.match(Probe.METHOD, Probe.EQUAL, "X");
        }
        p.stub(9, 200, "");
        p.server.scene(30, 0, 1, 1);
        Probe.due("the most that can be missed", p.server.near(0), 3005);
    }

    private static void nothingNear() {
        Probe.sentence("Promise 16", "-1 if there is no such request, or no stub");
        Probe p = new Probe();
        Probe.due("neither", p.server.near(0), -1);
        p.send(0, Probe.REQUEST);
        Probe.due("no stub", p.server.near(0), -1);
        p.stub(0, 200, "");
        Probe.due("both", p.server.near(0), 0);
        for (int requests = 1; requests <= 7; requests++) {
            int rows = Math.min(5, requests);
            for (int k = -2; k <= 7; k++) {
                Probe.due("near(" + k + ") of " + rows, p.server.near(k), k >= 0 && k < rows ? 0 : -1);
            }
            for (int k : NEVER) {
                Probe.due("near(" + k + ")", p.server.near(k), -1);
            }
            p.send(0, Probe.REQUEST);
        }
        p.server.remove(0);
        Probe.due("no stub is left", p.server.near(0), -1);
        p.stub(0, 200, "");
        p.server.reset();
        Probe.due("no request is left", p.server.near(0), -1);
    }

    private static void servedSoFar() {
        Probe.sentence("Promise 18", "How many requests were served so far.");
        Probe p = new Probe();
        Probe.due("none", p.server.served(), 0);
        for (int i = 1; i <= 12; i++) {
            p.send(i % 3, "G / H1\r\n\r");
            Probe.due("before its last byte", p.server.served(), i - 1);
            p.send(i % 3, "\n");
            Probe.due("then", p.server.served(), i);
        }
        p.server.reset();
        Probe.due("behind reset", p.server.served(), 12);
        p.send(0, "\n");
        Probe.due("behind a refusal", p.server.served(), 12);
        p.server.open(0);
        Probe.due("behind open", p.server.served(), 12);
        p.send(1, Probe.REQUEST + Probe.REQUEST);
        Probe.due("two at once", p.server.served(), 14);
    }
}
