import java.io.IOException;
import java.nio.file.Files;
import java.nio.file.Path;
import java.util.Objects;

/** A server that is spoken to in texts, and the count of the answers that were not as due. */
final class Probe {
    static final int METHOD = 0;
    static final int PATH = 1;
    static final int PARAMETER = 2;
    static final int HEADER = 3;
    static final int BODY = 4;
    static final int EQUAL = 0;
    static final int CONTAINS = 1;
    static final int FITS = 2;
    static final int ABSENT = 3;
    static final int PRESENT = 4;
    static final int LOWEST = Integer.MIN_VALUE;
    static final int HIGHEST = Integer.MAX_VALUE;
    static final String GET = "G / H1\r\n";
    static final String REQUEST = GET + "\r\n";

    // A request that has as much of everything as one may have.
    private static final String LARGEST = "PUTPUTP /p?a=1&b=2&c=3&d=aaaaaaaaaaaa H1\r\nx:1\r\ny:2\r\nz:" + times("z", 30)
            + "\r\nchunked:yes\r\n\r\n28\r\n" + times("b", 40) + "\r\n0\r\n\r\n";

    // Behind so many calls the document leaves free what an object answers.
    private static final int MOST_CALLS = 512;

    private static final Path DOCUMENT = Path.of("..", "shared", "DOC.md");
    private static String document = null;
    private static String heading = "";
    private static int sentences = 0;
    private static int looked = 0;
    private static int lookedBefore = 0;
    private static int wrong = 0;

    final StubServer server = new StubServer();
    private int calls = 0;

    private void countCall() {
        calls++;
        if (calls > MOST_CALLS) {
            throw new IllegalStateException("this test uses one object for too many calls");
        }
    }

    /**
     * From here on the answers are about these words of the document. They must stand there, so that
     * no test goes on for a sentence that the document no longer has.
     */
    static void sentence(String where, String words) {
        endSentence();
        heading = where + ", \"" + words + "\": ";
        sentences++;
        if (!section(where).contains(words)) {
            wrong++;
            System.out.println(heading + "the document has no such sentence there");
        }
    }

    private static void endSentence() {
        if (!heading.isEmpty() && looked == lookedBefore) {
            wrong++;
            System.out.println(heading + "no answer was looked at");
        }
        heading = "";
        lookedBefore = looked;
    }

    /** Where is a promise ("Promise 2"), a term ("Term LINE"), or the title of a section. */
    private static String section(String where) {
        String title = where.startsWith("Term ") ? "Terms" : where;
        for (String section : document().split("(^|\n)## ")) {
            boolean found = section.startsWith(title + ":") || section.startsWith(title + "\n");
            if (found && (!where.startsWith("Term ") || section.contains(where.substring(5)))) {
                return section.replaceAll("\\s+", " ");
            }
        }
        return "";
    }

    private static String document() {
        if (document == null) {
            try {
                document = Files.readString(DOCUMENT);
            } catch (IOException missing) {
                throw new IllegalStateException("there is no " + DOCUMENT, missing);
            }
        }
        return document;
    }

    static void due(String what, Object got, Object want) {
        looked++;
        if (!Objects.equals(got, want)) {
            wrong++;
            System.out.println(heading + what + " answered " + shown(got) + ", due is " + shown(want));
        }
    }

    static void end() {
        endSentence();
        System.out.println(sentences + " sentences, " + looked + " answers, " + wrong + " not as due");
        if (wrong > 0) {
            System.exit(1);
        }
    }

    static String shown(Object value) {
        return String.valueOf(value).replace("\r", "\\r").replace("\n", "\\n");
    }

    static String times(String text, int n) {
        return text.repeat(n);
    }

    static int word(String text, int from, int n) {
        int word = 0;
        for (int i = 0; i < n; i++) {
            word = word << 8 | text.charAt(from + i) & 255;
        }
        return word;
    }

    /** How many bytes of the text were read. */
    int send(int c, String text) {
        int read = 0;
        for (int i = 0; i < text.length(); i += 4) {
            int n = Math.min(4, text.length() - i);
            countCall();
            int got = server.send(c, word(text, i, n), n);
            if (got < 0) {
                break;
            }
            read += got;
        }
        return read;
    }

    String response(int c) {
        StringBuilder response = new StringBuilder();
        countCall();
        int size = server.size(c);
        for (int i = 0; i < size; i++) {
            countCall();
            response.append((char) server.at(c, i));
        }
        return response.toString();
    }

    String answer(int c, String text) {
        send(c, text);
        return response(c);
    }

    /** Sends a whole request to connection 0, new for it. */
    String ask(String text) {
        countCall();
        server.open(0);
        return answer(0, text);
    }

    boolean type(String text) {
        for (int i = 0; i < text.length(); i += 4) {
            int n = Math.min(4, text.length() - i);
            countCall();
            if (!server.type(word(text, i, n), n)) {
                return false;
            }
        }
        return true;
    }

    boolean match(int part, int way, String typed) {
        countCall();
        return type(typed) && server.match(part, way);
    }

    int stub(int priority, int status, String template) {
        countCall();
        return type(template) ? server.stub(priority, status) : -9;
    }

    /** For how many requests of the journal one matcher holds; -9 if there is no such matcher. */
    int counted(int part, int way, String typed) {
        countCall();
        return match(part, way, typed) ? server.count() : -9;
    }

    /** What is typed; it and the draft are used up, it for a stub that goes before all others. */
    String typed() {
        countCall();
        server.count();
        countCall();
        server.stub(0, 200);
        String response = ask(REQUEST);
        return response.substring(response.indexOf('\n') + 1);
    }

    /**
     * What reading the text led to: "open", "served", or how and at which byte it was refused: "400@12".
     * It must be the same at any connection, whatever this one read before.
     */
    static String refusal(String text) {
        String first = new Probe().outcome(0, text);
        Probe used = new Probe();
        used.send(1, LARGEST);
        due("as the second request: " + shown(text), used.outcome(1, text), first);
        Probe opened = new Probe();
        opened.send(2, LARGEST.substring(0, LARGEST.length() - 1));
        opened.server.open(2);
        due("behind open: " + shown(text), opened.outcome(2, text), first);
        return first;
    }

    private String outcome(int c, String text) {
        int servedBefore = server.served();
        int read = send(c, text);
        int served = server.served() - servedBefore;
        if (server.isOpen(c)) {
            return served == 0 ? "open" : "served";
        }
        String response = response(c);
        due("refused, so not served: " + shown(text), served, 0);
        due("refused without body: " + shown(text), response.substring(3), " 0\n");
        return response.substring(0, 3) + "@" + read;
    }

    /** Refused at the last byte of this, with that status, whatever comes behind it. */
    static void dueRefused(String text, int status) {
        String want = status + "@" + text.length();
        due("refusing " + shown(text), refusal(text), want);
        due("refusing at once " + shown(text), refusal(text + "zz"), want);
        due("not before its last byte " + shown(text), refusal(text.substring(0, text.length() - 1)), "open");
    }

    /** Served at the last byte of this, and not before. */
    static void dueServed(String text) {
        due("serving " + shown(text), refusal(text), "served");
        due("not before its last byte " + shown(text), refusal(text.substring(0, text.length() - 1)), "open");
    }

    /** Neither served nor refused so far. */
    static void dueOpen(String text) {
        due("reading " + shown(text), refusal(text), "open");
    }
}
