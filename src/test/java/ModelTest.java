import java.util.ArrayList;
import java.util.List;
import java.util.Random;
import java.util.TreeMap;
import java.util.regex.Pattern;

/**
 * All promises at once: long runs of calls, drawn from fixed seeds, whose answers must be those of a
 * second program that was written for this test in another way (it reads each request anew from its
 * beginning at each byte, and leaves patterns and templates to regular expressions).
 */
public final class ModelTest {
    private static final int RUNS = 1200;
    private static final int CALLS = 512;

    public static void main(String[] args) {
        int[] seen = new int[600];
        for (int seed = 1; seed <= RUNS; seed++) {
            new Run(seed, seen).go();
        }
        int[] statuses = {200, 400, 404, 413, 414, 431};
        for (int status : statuses) {
            Probe.due("runs that came to " + status, seen[status] > 100, true);
        }
        Probe.end();
    }

    private record Pair(String name, String value) {
    }

    private static final class Refused extends Exception {
        private static final long serialVersionUID = 1L;
        final int status;

        Refused(int status) {
            super(null, null, false, false);
            this.status = status;
        }
    }

    private static final class Unfinished extends Exception {
        private static final long serialVersionUID = 1L;

        Unfinished() {
            super(null, null, false, false);
        }
    }

    /** A request, read from the bytes of which it may be only the beginning. */
    private static final class Asked {
        String method;
        String path;
        String body = "";
        final List<Pair> parameters = new ArrayList<>();
        final List<Pair> headers = new ArrayList<>();
        int chosen = -1;
        private final String bytes;
        private int place = 0;

        Asked(String bytes) throws Refused, Unfinished {
            this.bytes = bytes;
            requestLine(line(40, 414));
            for (String header = line(32, 431); !header.isEmpty(); header = line(32, 431)) {
                header(header);
            }
            if (value(headers, "chunked") != null) {
                chunks();
            } else if (value(headers, "len") != null) {
                body = some(Integer.parseInt(value(headers, "len")));
            }
        }

        private char next() throws Unfinished {
            if (place == bytes.length()) {
                throw new Unfinished();
            }
            return bytes.charAt(place++);
        }

        private String some(int n) throws Unfinished {
            StringBuilder some = new StringBuilder();
            while (some.length() < n) {
                some.append(next());
            }
            return some.toString();
        }

        private static void must(boolean good, int status) throws Refused {
            if (!good) {
                throw new Refused(status);
            }
        }

        private String line(int most, int tooLong) throws Refused, Unfinished {
            StringBuilder line = new StringBuilder();
            for (char c = next(); c != 13; c = next()) {
                must(c >= 32 && c <= 126, 400);
                must(line.length() < most, tooLong);
                line.append(c);
            }
            must(next() == 10, 400);
            return line.toString();
        }

        private void requestLine(String line) throws Refused {
            must(line.matches("[A-Z]{1,7} /[^ ]* H1"), 400);
            String[] words = line.split(" ");
            method = words[0];
            String[] halves = words[1].split("\\?", 2);
            path = decoded(halves[0]);
            if (halves.length == 1) {
                return;
            }
            String[] told = halves[1].split("&", -1);
            must(told.length <= 4, 400);
            for (String parameter : told) {
                String[] sides = parameter.split("=", 2);
                must(!sides[0].isEmpty(), 400);
                parameters.add(new Pair(decoded(sides[0]), sides.length == 1 ? "" : decoded(sides[1])));
            }
        }

        private static String decoded(String text) throws Refused {
            must(text.matches("([^%]|%[2-6][0-9a-fA-F]|%7[0-9a-eA-E])*"), 400);
            return Pattern.compile("%(..)").matcher(text).replaceAll(m ->
                    java.util.regex.Matcher.quoteReplacement("" + (char) Integer.parseInt(m.group(1), 16)));
        }

        private void header(String line) throws Refused {
            must(headers.size() < 4, 431);
            must(line.matches("[-a-zA-Z]+:.*"), 400);
            String name = line.split(":", 2)[0].toLowerCase();
            String value = line.split(":", 2)[1].replaceAll("^ +| +$", "");
            if (name.equals("len") || name.equals("chunked")) {
                must(value(headers, "len") == null && value(headers, "chunked") == null, 400);
                must(value.matches(name.equals("len") ? "[0-9]{1,3}" : "yes"), 400);
                must(name.equals("chunked") || Integer.parseInt(value) <= 40, 413);
            }
            headers.add(new Pair(name, value));
        }

        private void chunks() throws Refused, Unfinished {
            int size;
            do {
                String digits = "";
                for (char c = next(); c != 13 || digits.isEmpty(); c = next()) {
                    digits += c;
                    must(digits.matches("[0-9a-f]{1,2}"), 400);
                }
                must(next() == 10, 400);
                size = Integer.parseInt(digits, 16);
                must(body.length() + size <= 40, 413);
                body += some(size);
                must(next() == 13, 400);
                must(next() == 10, 400);
            } while (size > 0);
        }

        static String value(List<Pair> pairs, String name) {
            for (Pair pair : pairs) {
                if (pair.name.equals(name)) {
                    return pair.value;
                }
            }
            return null;
        }
    }

    private record Condition(int part, int way, String name, String text) {
        private static final String ROW = "((\\[[^\\[\\]]+\\]|[^*?|\\[\\]])[*?]?)*";

        static boolean isPattern(String text) {
            return text.matches(ROW + "(\\|" + ROW + ")*");
        }

        boolean holds(Asked asked) {
            String value = part == 0 ? asked.method : part == 1 ? asked.path : part == 4 ? asked.body
                    : part == 2 ? Asked.value(asked.parameters, name) : Asked.value(asked.headers, name.toLowerCase());
            if (way >= 3) {
                return way == 4 == (value != null);
            }
            return value != null && (way == 0 ? value.equals(text) : way == 1 ? value.contains(text) : fits(value));
        }

        private boolean fits(String value) {
            StringBuilder regex = new StringBuilder();
            boolean inSet = false;
            for (char c : text.toCharArray()) {
                inSet = c == '[' || inSet && c != ']';
                boolean asItIs = c == '[' || c == ']' || !inSet && ".*?|".indexOf(c) >= 0;
                regex.append(asItIs || Character.isLetterOrDigit(c) ? "" + c : "\\" + c);
            }
            return Pattern.compile(regex.toString(), Pattern.DOTALL).matcher(value).matches();
        }
    }

    private static final class Answer {
        int priority;
        int status;
        String template;
        List<Condition> conditions;
        int[] scene;
    }

    private static final class Model {
        final boolean[] open = {true, true, true};
        final String[] bytes = {"", "", ""};
        final String[] responses = {"", "", ""};
        final int[] states = new int[3];
        final TreeMap<Integer, Answer> answers = new TreeMap<>();
        final List<Asked> journal = new ArrayList<>();
        List<Condition> draft = new ArrayList<>();
        String typed = "";
        int ids = 0;
        int served = 0;

        static boolean within(int value, int low, int high) {
            return low <= value && value <= high;
        }

        static String text(int word, int n) {
            String text = "";
            for (int i = 0; i < n; i++) {
                text = (char) (word >> 8 * i & 255) + text;
            }
            return text;
        }

        int send(int c, int word, int n) {
            if (!within(c, 0, 2) || !within(n, 1, 4) || !open[c]) {
                return -1;
            }
            int read = 0;
            for (char b : text(word, n).toCharArray()) {
                if (open[c]) {
                    read++;
                    arrive(c, b);
                }
            }
            return read;
        }

        private void arrive(int c, char b) {
            bytes[c] += b;
            try {
                Asked asked = new Asked(bytes[c]);
                bytes[c] = "";
                serve(c, asked);
            } catch (Refused refused) {
                responses[c] = refused.status + " 0\n";
                open[c] = false;
            } catch (Unfinished unfinished) {
                return;
            }
        }

        private void serve(int c, Asked asked) {
            served++;
            int best = -1;
            for (int id : answers.keySet()) {
                boolean better = best < 0 || answers.get(id).priority <= answers.get(best).priority;
                best = missed(answers.get(id), asked) == 0 && better ? id : best;
            }
            asked.chosen = best;
            responses[c] = "404 0\n";
            if (best >= 0) {
                Answer answer = answers.get(best);
                if (answer.scene != null) {
                    states[answer.scene[0]] = answer.scene[2];
                }
                String body = body(answer.template, asked);
                responses[c] = answer.status + " " + body.length() + "\n" + body;
            }
            journal.add(asked);
            if (journal.size() > 5) {
                journal.remove(0);
            }
            open[c] = asked.headers.stream().noneMatch(h -> h.name.equals("conn") && h.value.equals("close"));
        }

        private String body(String template, Asked asked) {
            String body = Pattern.compile("\\{([mpbn]|[qh][^}]+)\\}").matcher(template).replaceAll(m -> {
                String name = m.group(1).substring(1);
                String value = switch (m.group(1).charAt(0)) {
                    case 'm' -> asked.method;
                    case 'p' -> asked.path;
                    case 'b' -> asked.body;
                    case 'n' -> "" + served;
                    case 'q' -> Asked.value(asked.parameters, name);
                    default -> Asked.value(asked.headers, name.toLowerCase());
                };
                return java.util.regex.Matcher.quoteReplacement(value == null ? "" : value);
            });
            return body.length() > 60 ? body.substring(0, 60) : body;
        }

        private int missed(Answer answer, Asked asked) {
            int missed = (int) answer.conditions.stream().filter(m -> !m.holds(asked)).count();
            return answer.scene != null && states[answer.scene[0]] != answer.scene[1] ? missed + 1 : missed;
        }

        boolean open(int c) {
            if (within(c, 0, 2)) {
                open[c] = true;
                bytes[c] = "";
                responses[c] = "";
            }
            return within(c, 0, 2);
        }

        boolean isOpen(int c) {
            return within(c, 0, 2) && open[c];
        }

        int size(int c) {
            return within(c, 0, 2) ? responses[c].length() : 0;
        }

        int at(int c, int i) {
            return within(i, 0, size(c) - 1) ? responses[c].charAt(i) : -1;
        }

        boolean type(int word, int n) {
            if (!within(n, 1, 4) || !text(word, n).matches("[ -~]*") || typed.length() + n > 40) {
                return false;
            }
            typed += text(word, n);
            return true;
        }

        boolean match(int part, int way) {
            boolean named = part == 2 || part == 3;
            if (!within(part, 0, 4) || !within(way, 0, named ? 4 : 2) || draft.size() == 4) {
                return false;
            }
            if (named && !typed.matches(way < 3 ? "[^ ]+ .*" : "[^ ]+")) {
                return false;
            }
            String[] words = named ? (typed + (way < 3 ? "" : " ")).split(" ", 2) : new String[] {"", typed};
            if (way == 2 && !Condition.isPattern(words[1])) {
                return false;
            }
            draft.add(new Condition(part, way, words[0], words[1]));
            typed = "";
            return true;
        }

        int stub(int priority, int status) {
            if (!within(priority, 0, 9) || !within(status, 100, 599) || answers.size() == 8) {
                return -1;
            }
            Answer answer = new Answer();
            answer.priority = priority;
            answer.status = status;
            answer.template = typed;
            answer.conditions = draft;
            answers.put(ids, answer);
            draft = new ArrayList<>();
            typed = "";
            return ids++;
        }

        boolean scene(int id, int scenario, int need, int next) {
            if (!answers.containsKey(id) || !within(scenario, 0, 2) || !within(need, 0, 3) || !within(next, 0, 3)) {
                return false;
            }
            answers.get(id).scene = new int[] {scenario, need, next};
            return true;
        }

        boolean remove(int id) {
            return answers.remove(id) != null;
        }

        int reset() {
            int had = journal.size();
            journal.clear();
            java.util.Arrays.fill(states, 0);
            return had;
        }

        int count() {
            List<Condition> all = draft;
            draft = new ArrayList<>();
            return (int) journal.stream().filter(asked -> all.stream().allMatch(m -> m.holds(asked))).count();
        }

        int chosen(int k) {
            return within(k, 0, journal.size() - 1) ? journal.get(k).chosen : -2;
        }

        int near(int k) {
            if (!within(k, 0, journal.size() - 1) || answers.isEmpty()) {
                return -1;
            }
            long best = Long.MAX_VALUE;
            for (int id : answers.keySet()) {
                long rank = missed(answers.get(id), journal.get(k)) * 100_000L + answers.get(id).priority * 10_000 + 9_999 - id;
                best = Math.min(best, rank);
            }
            return (int) (100 * (9_999 - best % 10_000) + best / 100_000);
        }

        int state(int scenario) {
            return within(scenario, 0, 2) ? states[scenario] : -1;
        }
    }

    /** One run of calls on a new object and a new model; a part of them asks for what is likely to hold. */
    private static final class Run {
        private static final String[] METHODS = {"G", "GET", "PUT", "POST", "ABCDEFG", "ABCDEFGH", "get", ""};
        private static final String[] PATHS = {"/", "/a", "/ab", "/a/b", "/%41", "/%20b", "/aaa", "/%7e%2F", "/%1f", "/%4", "/a=&", "a",
            "/aaaaaaaaaaaaaaaaaaaaaaaaaaaa"};
        private static final String[] PARAMETERS = {"a", "a=1", "a=2", "b=", "b=xy", "A=1", "%61=3", "k=%26%3D", "=1", "", "a=1=2", "c?d"};
        private static final String[] HEADERS = {"x:1", "X: 2 ", "x-y: a b", "X-Y:ab", "conn: close", "conn:keep", "no", ":", "x1:1", "y:",
            "x:aaaaaaaaaaaaaaaaaaaaaaaaaaaaaa", "x:aaaaaaaaaaaaaaaaaaaaaaaaaaaaaaa", "len:1", "len:x"};
        private static final String[] TEXTS = {"", "a", "G", "GET", "PUT", "/", "/a", "/ab", "1", "2", "ab", "a b", "xy", "aa"};
        private static final String[] PATTERNS = {".*", "/a*", "/[ab]*", "G|PUT", "GE?T?", "a?b?", "[12]", ".", "a|", "", "/.b", "[aG]*",
            "/a*b?|G", "P.T|.", "a*a*", "[.*]", "x[yz]", "**", "[", "a|*", "[]", "a]", "a??"};
        private static final String[] NAMES = {"a", "b", "x", "X-Y", "x-y", "A", "conn", "k", "none", "len"};
        private static final String[] PIECES = {"{m}", "{p}", "{b}", "{n}", "{qa}", "{qb}", "{hx-Y}", "{hX}", "{q}", "{", "}", "x", "text",
            "{mm}", "{q{m}"};

        private final int seed;
        private final Random random;
        private final int[] seen;
        private final StubServer server = new StubServer();
        private final Model model = new Model();
        private int calls = 0;

        Run(int seed, int[] seen) {
            this.seed = seed;
            this.random = new Random(seed);
            this.seen = seen;
        }

        private int below(int n) {
            return random.nextInt(n);
        }

        private boolean oneIn(int n) {
            return below(n) == 0;
        }

        private String one(String[] texts) {
            return texts[below(texts.length)];
        }

        private int wild() {
            int[] wild = {-1, -2, 3, 4, 5, 6, 8, 10, 99, 600, Integer.MIN_VALUE, Integer.MAX_VALUE};
            return wild[below(wild.length)];
        }

        private int mostly(int n) {
            return oneIn(25) ? wild() : below(n);
        }

        private void same(String call, Object got, Object want) {
            calls++;
            if (calls <= CALLS) {
                Probe.due("seed " + seed + " call " + calls + ": " + call, got, want);
            }
        }

        void go() {
            while (calls < CALLS) {
                switch (below(12)) {
                    case 0, 1 -> makeStub();
                    case 2 -> count();
                    case 3 -> changeStubs();
                    case 4 -> ask();
                    case 5 -> loose();
                    default -> request();
                }
            }
        }

        private void send(int c, String text) {
            for (int i = 0; i < text.length();) {
                int n = Math.min(1 + below(4), text.length() - i);
                int word = Probe.word(text, i, n) | (n < 4 && oneIn(2) ? below(1 << 30) << 8 * n : 0);
                same("send(" + c + ", " + word + ", " + n + ")", server.send(c, word, n), model.send(c, word, n));
                i += n;
            }
        }

        private void type(String text) {
            for (int i = 0; i < text.length(); i += 4) {
                int n = Math.min(4, text.length() - i);
                int word = Probe.word(text, i, n);
                same("type(" + word + ", " + n + ")", server.type(word, n), model.type(word, n));
            }
        }

        private void match() {
            int part = below(5);
            int way = part == 2 || part == 3 ? below(5) : below(3);
            String text = way == 2 ? one(PATTERNS) : one(TEXTS);
            if (part == 2 || part == 3) {
                text = way < 3 ? one(NAMES) + " " + text : one(NAMES);
            }
            type(text);
            int askedPart = oneIn(30) ? wild() : part;
            int askedWay = oneIn(30) ? mostly(5) : way;
            same("match(" + askedPart + ", " + askedWay + ")", server.match(askedPart, askedWay), model.match(askedPart, askedWay));
        }

        private void makeStub() {
            for (int i = below(3); i > 0; i--) {
                match();
            }
            for (int i = below(4); i > 0; i--) {
                type(one(PIECES));
            }
            int priority = oneIn(30) ? wild() : below(3);
            int status = oneIn(30) ? wild() : 200;
            same("stub(" + priority + ", " + status + ")", server.stub(priority, status), model.stub(priority, status));
            if (oneIn(2)) {
                scene();
            }
        }

        private void scene() {
            int id = oneIn(2) ? model.ids - 1 : mostly(model.ids + 1);
            int scenario = mostly(3);
            int need = oneIn(2) ? 0 : mostly(4);
            int next = mostly(4);
            same("scene(" + id + ", " + scenario + ", " + need + ", " + next + ")", server.scene(id, scenario, need, next),
                    model.scene(id, scenario, need, next));
        }

        private void changeStubs() {
            if (oneIn(2)) {
                int id = mostly(model.ids + 1);
                same("remove(" + id + ")", server.remove(id), model.remove(id));
            } else if (oneIn(2)) {
                scene();
            } else if (oneIn(3)) {
                same("reset()", server.reset(), model.reset());
            }
        }

        private void count() {
            for (int i = below(3); i > 0; i--) {
                match();
            }
            same("count()", server.count(), model.count());
        }

        private void ask() {
            int k = mostly(5);
            same("journal()", server.journal(), model.journal.size());
            same("served()", server.served(), model.served);
            same("chosen(" + k + ")", server.chosen(k), model.chosen(k));
            same("near(" + k + ")", server.near(k), model.near(k));
            int scenario = mostly(3);
            same("state(" + scenario + ")", server.state(scenario), model.state(scenario));
        }

        private void loose() {
            int c = mostly(3);
            int n = mostly(5);
            int word = random.nextInt();
            if (oneIn(3)) {
                same("send(" + c + ", " + word + ", " + n + ")", server.send(c, word, n), model.send(c, word, n));
            } else if (oneIn(2)) {
                same("type(" + word + ", " + n + ")", server.type(word, n), model.type(word, n));
            } else {
                same("open(" + c + ")", server.open(c), model.open(c));
            }
        }

        private void request() {
            int c = mostly(3);
            if (!model.isOpen(c) && !oneIn(10)) {
                same("open(" + c + ")", server.open(c), model.open(c));
            }
            String text = drawn();
            if (oneIn(12)) {
                int i = below(text.length());
                String[] strange = {"\r", "\n", "\r\n", "\0", " ", "\u0080", "a", ""};
                text = text.substring(0, i) + one(strange) + text.substring(i + below(2));
            }
            send(c, text);
            same("isOpen(" + c + ")", server.isOpen(c), model.isOpen(c));
            response(c);
        }

        private String drawn() {
            boolean plain = !oneIn(3);
            StringBuilder text = new StringBuilder(plain ? METHODS[below(4)] : one(METHODS)).append(' ');
            text.append(plain ? PATHS[below(6)] : one(PATHS));
            for (int i = oneIn(2) ? 0 : below(6), k = 0; k < i; k++) {
                text.append(k == 0 ? '?' : '&').append(plain ? PARAMETERS[below(8)] : one(PARAMETERS));
            }
            text.append(oneIn(40) ? " H2" : " H1").append("\r\n");
            for (int i = oneIn(2) ? 0 : below(oneIn(4) ? 6 : 3); i > 0; i--) {
                text.append(plain ? HEADERS[below(6)] : one(HEADERS)).append("\r\n");
            }
            return text + withBody();
        }

        private String withBody() {
            int size = oneIn(6) ? 36 + below(10) : below(6);
            String bytes = "";
            for (int i = 0; i < size; i++) {
                bytes += oneIn(6) ? (char) below(256) : "ab1".charAt(below(3));
            }
            if (oneIn(2)) {
                return "\r\n";
            }
            if (oneIn(2)) {
                return (oneIn(2) ? "len: " : "LEN:0") + size + (oneIn(9) ? "0" : "") + "\r\n\r\n" + bytes;
            }
            String chunked = (oneIn(20) ? "chunked:no" : "Chunked: yes") + "\r\n\r\n";
            for (int from = 0; from < size;) {
                int n = Math.min(1 + below(oneIn(2) ? 4 : 20), size - from);
                chunked += (oneIn(3) && n < 16 ? "0" : "") + Integer.toHexString(n) + "\r\n" + bytes.substring(from, from + n) + "\r\n";
                from += n;
            }
            return chunked + (oneIn(4) ? "00" : "0") + "\r\n\r\n";
        }

        private void response(int c) {
            int size = model.size(c);
            same("size(" + c + ")", server.size(c), size);
            if (size > 0) {
                seen[Integer.parseInt(model.responses[c].substring(0, 3)) % seen.length]++;
            }
            int step = oneIn(3) ? 1 : 5;
            for (int i = oneIn(9) ? -1 : below(3); i < size + 1; i += step) {
                same("at(" + c + ", " + i + ")", server.at(c, i), model.at(c, i));
            }
        }
    }
}
