/** Promise 7: type. */
public final class TypeTest {
    public static void main(String[] args) {
        orderOfBytes();
        wrongNumbers();
        wrongBytes();
        onlyTheLowestBytes();
        atMostForty();
        roomAgain();
        Probe.end();
    }

    private static void orderOfBytes() {
        Probe.sentence("Promise 7", "Appends the n lowest bytes of word, the highest of them first, as characters to what is typed");
        Probe p = new Probe();
        Probe.due("one", p.server.type(0xFFFFFF41, 1), true);
        Probe.due("two", p.server.type(0x00004243, 2), true);
        Probe.due("three", p.server.type(0x0A444546, 3), true);
        Probe.due("four", p.server.type(0x4748494A, 4), true);
        Probe.due("typed", p.typed(), "ABCDEFGHIJ");
        Probe.due("nothing is typed then", p.typed(), "");
    }

    private static void wrongNumbers() {
        Probe.sentence("Promise 7", "false, refused, if n is not 1 .. 4");
        int[] wrong = {0, 5, -1, 6, -4, 32, Probe.LOWEST, Probe.HIGHEST};
        for (int n : wrong) {
            Probe p = new Probe();
            p.type("was");
            Probe.due("type(word, " + n + ")", p.server.type(0x41414141, n), false);
            Probe.due("what was typed stays", p.typed(), "was");
        }
        for (int n = 1; n <= 4; n++) {
            Probe p = new Probe();
            Probe.due("type(word, " + n + ")", p.server.type(0x41414141, n), true);
            Probe.due("typed", p.typed(), Probe.times("A", n));
        }
    }

    private static void wrongBytes() {
        Probe.sentence("Promise 7", "one of them is not 32 .. 126");
        for (int b = 0; b < 256; b++) {
            for (int n = 1; n <= 4; n++) {
                for (int i = 0; i < n; i++) {
                    Probe p = new Probe();
                    p.type("x");
                    int word = 0x41414141 & ~(255 << 8 * i) | b << 8 * i;
                    boolean good = b >= 32 && b <= 126;
                    Probe.due("type(" + Integer.toHexString(word) + ", " + n + ")", p.server.type(word, n), good);
                    String added = Probe.times("A", n - 1 - i) + (char) b + Probe.times("A", i);
                    Probe.due("typed then", p.typed(), good ? "x" + added : "x");
                }
            }
        }
    }

    private static void onlyTheLowestBytes() {
        Probe.sentence("Promise 7", "one of them is not 32 .. 126");
        for (int n = 1; n <= 3; n++) {
            Probe p = new Probe();
            Probe.due("the others may be any", p.server.type(0x41414141 & (1 << 8 * n) - 1, n), true);
            Probe.due("also 255", p.server.type(0x41414141 | -1 << 8 * n, n), true);
            Probe.due("typed", p.typed(), Probe.times("A", 2 * n));
        }
    }

    private static void atMostForty() {
        Probe.sentence("Promise 7", "or more than 40 would be there");
        for (int before = 34; before <= 40; before++) {
            for (int n = 1; n <= 4; n++) {
                Probe p = new Probe();
                p.type(Probe.times("a", before));
                Probe.due(n + " behind " + before, p.server.type(0x41414141, n), before + n <= 40);
                String want = Probe.times("a", before) + (before + n <= 40 ? Probe.times("A", n) : "");
                Probe.due("typed", p.typed(), want);
            }
        }
        Probe p = new Probe();
        p.type(Probe.times("a", 38));
        Probe.due("three are too many", p.server.type(0x414141, 3), false);
        Probe.due("two are not", p.server.type(0x4141, 2), true);
        Probe.due("it is full", p.server.type(0x41, 1), false);
    }

    private static void roomAgain() {
        Probe.sentence("Promise 7", "or more than 40 would be there");
        Probe p = new Probe();
        p.type(Probe.times("a", 40));
        p.server.match(Probe.BODY, Probe.CONTAINS);
        Probe.due("forty behind match", p.type(Probe.times("b", 40)), true);
        Probe.due("and no more", p.server.type(65, 1), false);
        p.server.stub(0, 200);
        Probe.due("forty behind stub", p.type(Probe.times("c", 40)), true);
        Probe.due("and no more then", p.server.type(65, 1), false);
        p.server.count();
        Probe.due("none behind count", p.server.type(65, 1), false);
        Probe.due("typed", p.typed(), Probe.times("c", 40));
    }
}
