/** Promise 7: type. */
public final class TypeTest {
    public static void main(String[] args) {
        orderOfBytes();
        wrongNumbers();
        wrongBytes();
        atMostForty();
        Probe.end();
    }

    private static String typed(Probe p) {
        p.server.stub(0, 200);
        return p.ask(Probe.GET + "\r\n").substring(4);
    }

    private static void orderOfBytes() {
        Probe p = new Probe();
        Probe.due("one", p.server.type(0xFFFFFF41, 1), true);
        Probe.due("two", p.server.type(0x00004243, 2), true);
        Probe.due("three", p.server.type(0x0A444546, 3), true);
        Probe.due("four", p.server.type(0x4748494A, 4), true);
        Probe.due("typed", typed(p), "10\nABCDEFGHIJ");
        Probe.due("nothing is typed then", typed(p), "0\n");
    }

    private static void wrongNumbers() {
        Probe p = new Probe();
        int[] wrong = {0, 5, -1, -4, Integer.MIN_VALUE, Integer.MAX_VALUE};
        for (int n : wrong) {
            Probe.due("type(word, " + n + ")", p.server.type(0x41414141, n), false);
        }
        Probe.due("nothing came", typed(p), "0\n");
    }

    private static void wrongBytes() {
        Probe p = new Probe();
        p.type("x");
        int[] wrong = {0, 10, 31, 127, 128, 255};
        for (int b : wrong) {
            for (int n = 1; n <= 4; n++) {
                for (int i = 0; i < n; i++) {
                    int word = 0x41414141 & ~(255 << 8 * i) | b << 8 * i;
                    Probe.due("type(" + Integer.toHexString(word) + ", " + n + ")", p.server.type(word, n), false);
                }
            }
        }
        Probe.due("the lowest and highest", p.server.type(0x207E, 2), true);
        Probe.due("typed", typed(p), "3\nx ~");
    }

    private static void atMostForty() {
        for (int n = 1; n <= 4; n++) {
            Probe p = new Probe();
            p.type(Probe.times("a", 41 - n));
            Probe.due("one too many", p.server.type(0x41414141, n), false);
            Probe.due("one fewer", n == 1 || p.server.type(0x41414141, n - 1), true);
            Probe.due("full", p.server.type(65, 1), false);
            Probe.due("forty", typed(p).substring(0, 3), "40\n");
        }
    }
}
