import java.util.Objects;

/** A server that is spoken to in texts, and the count of the answers that were not as due. */
final class Probe {
    static final int METHOD = 0;
    static final int PATH = 1;
    static final int PARAMETER = 2;
    static final int HEADER = 3;
    static final int BODY = 4;
    static final int EQUAL = 0;
    static final int CONTAINS = 1;
    static final int FITS = 2;
    static final int ABSENT = 3;
    static final int PRESENT = 4;
    static final String GET = "G / H1\r\n";

    private static int looked = 0;
    private static int wrong = 0;

    // Behind so many calls the document leaves free what an object answers.
    private static final int MOST_CALLS = 512;

    final StubServer server = new StubServer();
    private int calls = 0;

    private void countCall() {
        calls++;
        if (calls > MOST_CALLS) {
            throw new IllegalStateException("this test uses one object for too many calls");
        }
    }

    static void due(String what, Object got, Object want) {
        looked++;
        if (!Objects.equals(got, want)) {
            wrong++;
            System.out.println(what + " answered " + shown(got) + ", due is " + shown(want));
        }
    }

    static void end() {
        System.out.println(looked + " answers, " + wrong + " not as due");
        if (wrong > 0) {
            System.exit(1);
        }
    }

    static String shown(Object value) {
        return String.valueOf(value).replace("\r", "\\r").replace("\n", "\\n");
    }

    static String times(String text, int n) {
        return text.repeat(n);
    }

    static int word(String text, int from, int n) {
        int word = 0;
        for (int i = 0; i < n; i++) {
            word = word << 8 | text.charAt(from + i) & 255;
        }
        return word;
    }

    /** How many bytes of the text were read. */
    int send(int c, String text) {
        int read = 0;
        for (int i = 0; i < text.length(); i += 4) {
            int n = Math.min(4, text.length() - i);
            countCall();
            int got = server.send(c, word(text, i, n), n);
            if (got < 0) {
                break;
            }
            read += got;
        }
        return read;
    }

    String response(int c) {
        StringBuilder response = new StringBuilder();
        countCall();
        int size = server.size(c);
        for (int i = 0; i < size; i++) {
            countCall();
            response.append((char) server.at(c, i));
        }
        return response.toString();
    }

    String answer(int c, String text) {
        send(c, text);
        return response(c);
    }

    /** Sends a whole request to connection 0, new for it. */
    String ask(String text) {
        countCall();
        server.open(0);
        return answer(0, text);
    }

    boolean type(String text) {
        for (int i = 0; i < text.length(); i += 4) {
            int n = Math.min(4, text.length() - i);
            countCall();
            if (!server.type(word(text, i, n), n)) {
                return false;
            }
        }
        return true;
    }

    boolean match(int part, int way, String typed) {
        return type(typed) && server.match(part, way);
    }

    int stub(int priority, int status, String template) {
        return type(template) ? server.stub(priority, status) : -9;
    }

    /** For how many requests of the journal one matcher holds; -9 if there is no such matcher. */
    int counted(int part, int way, String typed) {
        return match(part, way, typed) ? server.count() : -9;
    }

    /** What refusing the text answered, and at which of its bytes: "400@12"; "open" if it was not. */
    static String refusal(String text) {
        Probe probe = new Probe();
        int read = probe.send(0, text);
        if (probe.server.isOpen(0)) {
            return probe.server.size(0) == 0 ? "open" : "served";
        }
        due("refused, so not served: " + shown(text), probe.server.served(), 0);
        String response = probe.response(0);
        due("refused without body: " + shown(text), response.substring(3), " 0\n");
        return response.substring(0, 3) + "@" + read;
    }

    /** Refused at the last byte of this, with that status, whatever comes behind it. */
    static void dueRefused(String text, int status) {
        String want = status + "@" + text.length();
        due("refusing " + shown(text), refusal(text), want);
        due("refusing at once " + shown(text), refusal(text + "zz"), want);
        String before = refusal(text.substring(0, text.length() - 1));
        due("not before its last byte " + shown(text), before.equals("open") || before.equals("served"), true);
    }

    static void dueServed(String text) {
        due("serving " + shown(text), refusal(text), "served");
        due("not before its last byte " + shown(text), refusal(text.substring(0, text.length() - 1)), "open");
    }
}
