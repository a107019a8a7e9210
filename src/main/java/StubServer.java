import java.util.ArrayList;

/**
 * A server that stands in for another one: it reads requests from connections byte by byte, answers
 * each by the first of its stubs that matches, moves scenarios on, and keeps a journal.
 */
public final class StubServer {
    private static final int CONNECTIONS = 3;
    private static final int SCENARIOS = 3;
    private static final int HIGHEST_STATE = 3;
    private static final int MOST_TYPED = 40;
    private static final int MOST_MATCHERS = 4;
    private static final int MOST_STUBS = 8;
    private static final int MOST_KEPT = 5;
    private static final int NO_STUB_STATUS = 404;

    private final Connection[] connections;
    private final int[] states;
    private final StringBuilder typed;
    // In the order of their IDs, so that of two equally good stubs the later one in the list wins.
    private final ArrayList<Stub> stubs;
    private final ArrayList<Request> kept;
    private ArrayList<Matcher> draft;
    private int nextId;
    private int servedSoFar;

    public StubServer() {
        connections = new Connection[CONNECTIONS];
        for (int c = 0; c < CONNECTIONS; c++) {
            connections[c] = new Connection();
        }
        states = new int[SCENARIOS];
        typed = new StringBuilder();
        stubs = new ArrayList<>();
        kept = new ArrayList<>();
        draft = new ArrayList<>();
    }

    public int send(int c, int word, int n) {
        if (!isOpen(c) || n < 1 || n > 4) {
            return -1;
        }
        Connection connection = connections[c];
        for (int read = 1; read <= n; read++) {
            int outcome = connection.reader.take(byteOf(word, n - read));
            if (outcome == Reader.COMPLETE) {
                serve(connection);
            } else if (outcome != Reader.MORE) {
                connection.refuse(outcome);
            }
            if (!connection.open) {
                return read;
            }
        }
        return n;
    }

    public boolean open(int c) {
        if (!isConnection(c)) {
            return false;
        }
        connections[c].renew();
        return true;
    }

    public boolean isOpen(int c) {
        return isConnection(c) && connections[c].open;
    }

    public int size(int c) {
        return isConnection(c) ? connections[c].response.length() : 0;
    }

    public int at(int c, int i) {
        return i >= 0 && i < size(c) ? connections[c].response.charAt(i) : -1;
    }

    public boolean type(int word, int n) {
        if (n < 1 || n > 4 || typed.length() + n > MOST_TYPED) {
            return false;
        }
        for (int i = 0; i < n; i++) {
            if (!Texts.isPlain(byteOf(word, i))) {
                return false;
            }
        }
        for (int i = n - 1; i >= 0; i--) {
            typed.append((char) byteOf(word, i));
        }
        return true;
    }

    public boolean match(int part, int way) {
        if (draft.size() >= MOST_MATCHERS) {
            return false;
        }
        Matcher matcher = Matcher.of(part, way, typed.toString());
        if (matcher == null) {
            return false;
        }
        draft.add(matcher);
        typed.setLength(0);
        return true;
    }

    public int stub(int priority, int status) {
        if (priority < 0 || priority > 9 || status < 100 || status > 599 || stubs.size() >= MOST_STUBS) {
            return -1;
        }
        int id = nextId;
        nextId++;
        stubs.add(new Stub(id, priority, status, typed.toString(), draft));
        draft = new ArrayList<>();
        typed.setLength(0);
        return id;
    }

    public boolean scene(int id, int scenario, int need, int next) {
        int place = placeOf(id);
        if (place < 0 || !isScenario(scenario) || !isState(need) || !isState(next)) {
            return false;
        }
        stubs.get(place).scene = new Scene(scenario, need, next);
        return true;
    }

    public boolean remove(int id) {
        int place = placeOf(id);
        if (place < 0) {
            return false;
        }
        stubs.remove(place);
        return true;
    }

    public int reset() {
        int had = kept.size();
        kept.clear();
        for (int s = 0; s < SCENARIOS; s++) {
            states[s] = 0;
        }
        return had;
    }

    public int count() {
        int holding = 0;
        for (int k = 0; k < kept.size(); k++) {
            if (conditionsMissed(draft, null, kept.get(k)) == 0) {
                holding++;
            }
        }
        draft.clear();
        return holding;
    }

    public int journal() {
        return kept.size();
    }

    public int chosen(int k) {
        return isKept(k) ? kept.get(k).chosenId : -2;
    }

    public int near(int k) {
        if (!isKept(k)) {
            return -1;
        }
        Request request = kept.get(k);
        Stub stub = nearest(request);
        return stub == null ? -1 : 100 * stub.id + conditionsMissed(stub.matchers, stub.scene, request);
    }

    public int state(int scenario) {
        return isScenario(scenario) ? states[scenario] : -1;
    }

    public int served() {
        return servedSoFar;
    }

    private static boolean isConnection(int c) {
        return c >= 0 && c < CONNECTIONS;
    }

    private static boolean isScenario(int scenario) {
        return scenario >= 0 && scenario < SCENARIOS;
    }

    private static boolean isState(int state) {
        return state >= 0 && state <= HIGHEST_STATE;
    }

    private boolean isKept(int k) {
        return k >= 0 && k < kept.size();
    }

    private static int byteOf(int word, int fromLowest) {
        return word >>> 8 * fromLowest & 255;
    }

    private int placeOf(int id) {
        for (int place = 0; place < stubs.size(); place++) {
            if (stubs.get(place).id == id) {
                return place;
            }
        }
        return -1;
    }

    private void serve(Connection connection) {
        Request request = connection.reader.handOver();
        servedSoFar++;
        Stub stub = nearest(request);
        if (stub == null || conditionsMissed(stub.matchers, stub.scene, request) > 0) {
            connection.respond(NO_STUB_STATUS, "");
        } else {
            request.chosenId = stub.id;
            moveOn(stub.scene);
            connection.respond(stub.status, stub.template.fill(request, servedSoFar));
        }
        keep(request);
        if (request.asksToClose()) {
            connection.open = false;
        }
    }

    private void moveOn(Scene scene) {
        if (scene != null) {
            states[scene.scenario] = scene.next;
        }
    }

    private void keep(Request request) {
        if (kept.size() >= MOST_KEPT) {
            kept.remove(0);
        }
        kept.add(request);
    }

    /** The stub that is chosen is the nearest one that misses nothing, so both questions share this. */
    private Stub nearest(Request request) {
        Stub best = null;
        int bestMissed = 0;
        for (int i = 0; i < stubs.size(); i++) {
            Stub stub = stubs.get(i);
            int missed = conditionsMissed(stub.matchers, stub.scene, request);
            if (best == null || missed < bestMissed
                    || missed == bestMissed && stub.priority <= best.priority) {
                best = stub;
                bestMissed = missed;
            }
        }
        return best;
    }

    private int conditionsMissed(ArrayList<Matcher> matchers, Scene scene, Request request) {
        int missed = scene != null && states[scene.scenario] != scene.need ? 1 : 0;
        for (int i = 0; i < matchers.size(); i++) {
            if (!matchers.get(i).holds(request)) {
                missed++;
            }
        }
        return missed;
    }

    private static final class Connection {
        final Reader reader = new Reader();
        final StringBuilder response = new StringBuilder();
        boolean open = true;

        void renew() {
            reader.begin();
            response.setLength(0);
            open = true;
        }

        void refuse(int status) {
            respond(status, "");
            open = false;
        }

        void respond(int status, String body) {
            response.setLength(0);
            response.append(status).append(' ').append(body.length()).append('\n').append(body);
        }
    }

    /** Puts the bytes of one connection together to requests. */
    private static final class Reader {
        // What a byte led to; a request that is refused there: the status.
        static final int MORE = 0;
        static final int COMPLETE = 1;
        static final int LINE_ENDED = 2;
        static final int BAD = 400;
        static final int LARGE = 413;
        static final int LONG = 414;
        static final int BIG = 431;

        static final int IN_REQUEST_LINE = 0;
        static final int IN_HEADERS = 1;
        static final int IN_BODY = 2;
        static final int IN_CHUNK_SIZE = 3;
        static final int IN_CHUNK = 4;
        static final int IN_CHUNK_END = 5;

        static final int MOST_REQUEST_LINE = 40;
        static final int MOST_HEADER_LINE = 32;
        static final int MOST_HEADERS = 4;
        static final int MOST_BODY = 40;
        static final int MOST_SIZE_DIGITS = 2;

        private final StringBuilder line = new StringBuilder();
        private final StringBuilder body = new StringBuilder();
        private final RequestLine requestLine = new RequestLine();
        private Request request = new Request();
        private int phase = IN_REQUEST_LINE;
        private boolean sawReturn;
        private boolean sizeTold;
        private boolean chunked;
        private int wanted;
        private int sizeDigits;
        private int sizeOfAll;

        void begin() {
            line.setLength(0);
            body.setLength(0);
            request = new Request();
            phase = IN_REQUEST_LINE;
            sawReturn = false;
            sizeTold = false;
            chunked = false;
            wanted = 0;
            sizeDigits = 0;
            sizeOfAll = 0;
        }

        Request handOver() {
            Request whole = request;
            whole.body = new Part("", body.toString());
            begin();
            return whole;
        }

        int take(int b) {
            switch (phase) {
                case IN_REQUEST_LINE:
                    return takeInRequestLine(b);
                case IN_HEADERS:
                    return takeInHeaders(b);
                case IN_BODY:
                    return takeInBody(b);
                case IN_CHUNK_SIZE:
                    return takeInChunkSize(b);
                case IN_CHUNK:
                    return takeInChunk(b);
                default:
                    return takeInChunkEnd(b);
            }
        }

        private int takeInRequestLine(int b) {
            int outcome = takeInLine(b, MOST_REQUEST_LINE, LONG);
            if (outcome != LINE_ENDED) {
                return outcome;
            }
            phase = IN_HEADERS;
            return requestLine.read(endLine(), request) ? MORE : BAD;
        }

        private int takeInHeaders(int b) {
            int outcome = takeInLine(b, MOST_HEADER_LINE, BIG);
            if (outcome != LINE_ENDED) {
                return outcome;
            }
            String text = endLine();
            if (text.isEmpty()) {
                return endHeaders();
            }
            if (request.headers.size() >= MOST_HEADERS) {
                return BIG;
            }
            Part header = headerOf(text);
            if (header == null) {
                return BAD;
            }
            request.headers.add(header);
            return lookForSize(header);
        }

        /** Bad bytes go before lines that are too long, which the order here keeps to. */
        private int takeInLine(int b, int most, int tooLong) {
            if (sawReturn) {
                return b == '\n' ? LINE_ENDED : BAD;
            }
            if (b == '\r') {
                sawReturn = true;
                return MORE;
            }
            if (!Texts.isPlain(b)) {
                return BAD;
            }
            if (line.length() >= most) {
                return tooLong;
            }
            line.append((char) b);
            return MORE;
        }

        private String endLine() {
            String text = line.toString();
            line.setLength(0);
            sawReturn = false;
            return text;
        }

        private static Part headerOf(String text) {
            int colon = text.indexOf(':');
            if (colon < 1) {
                return null;
            }
            for (int i = 0; i < colon; i++) {
                char c = text.charAt(i);
                if (c != '-' && !Texts.isCapital(c) && !Texts.isSmall(c)) {
                    return null;
                }
            }
            return new Part(Texts.small(text.substring(0, colon)), Texts.trimmed(text, colon + 1));
        }

        private int lookForSize(Part header) {
            boolean isLength = header.name.equals("len");
            if (!isLength && !header.name.equals("chunked")) {
                return MORE;
            }
            if (sizeTold) {
                return BAD;
            }
            sizeTold = true;
            if (isLength) {
                return readLength(header.value);
            }
            chunked = true;
            return header.value.equals("yes") ? MORE : BAD;
        }

        private int readLength(String value) {
            if (value.isEmpty() || value.length() > 3) {
                return BAD;
            }
            for (int i = 0; i < value.length(); i++) {
                char c = value.charAt(i);
                if (!Texts.isDigit(c)) {
                    return BAD;
                }
                wanted = 10 * wanted + (c - '0');
            }
            return wanted > MOST_BODY ? LARGE : MORE;
        }

        private int endHeaders() {
            if (chunked) {
                phase = IN_CHUNK_SIZE;
                return MORE;
            }
            phase = IN_BODY;
            return wanted > 0 ? MORE : COMPLETE;
        }

        private int takeInBody(int b) {
            body.append((char) b);
            wanted--;
            return wanted > 0 ? MORE : COMPLETE;
        }

        private int takeInChunkSize(int b) {
            if (sawReturn) {
                return b == '\n' ? endChunkSize() : BAD;
            }
            if (b == '\r' && sizeDigits > 0) {
                sawReturn = true;
                return MORE;
            }
            int digit = Texts.hexDigit(b);
            if (digit < 0 || Texts.isCapital(b) || sizeDigits >= MOST_SIZE_DIGITS) {
                return BAD;
            }
            wanted = 16 * wanted + digit;
            sizeDigits++;
            return MORE;
        }

        private int endChunkSize() {
            sawReturn = false;
            sizeDigits = 0;
            sizeOfAll += wanted;
            if (sizeOfAll > MOST_BODY) {
                return LARGE;
            }
            // The chunk that ends the body has no bytes of its own, only its 13, 10.
            chunked = wanted > 0;
            phase = chunked ? IN_CHUNK : IN_CHUNK_END;
            return MORE;
        }

        private int takeInChunk(int b) {
            body.append((char) b);
            wanted--;
            if (wanted <= 0) {
                phase = IN_CHUNK_END;
            }
            return MORE;
        }

        private int takeInChunkEnd(int b) {
            if (!sawReturn) {
                sawReturn = b == '\r';
                return sawReturn ? MORE : BAD;
            }
            if (b != '\n') {
                return BAD;
            }
            sawReturn = false;
            phase = IN_CHUNK_SIZE;
            return chunked ? MORE : COMPLETE;
        }
    }

    /** Takes a request line apart; it keeps one builder for all the texts that it decodes. */
    private static final class RequestLine {
        static final int MOST_METHOD = 7;
        static final int MOST_PARAMETERS = 4;
        static final String ENDING = " H1";

        private final StringBuilder decoded = new StringBuilder();

        boolean read(String line, Request request) {
            int methodEnd = line.indexOf(' ');
            int targetEnd = line.length() - ENDING.length();
            if (!isMethod(line, methodEnd) || targetEnd <= methodEnd
                    || !line.substring(targetEnd).equals(ENDING)) {
                return false;
            }
            String target = line.substring(methodEnd + 1, targetEnd);
            if (target.isEmpty() || target.charAt(0) != '/' || target.indexOf(' ') >= 0
                    || !hasGoodCodes(target)) {
                return false;
            }
            int mark = target.indexOf('?');
            String path = mark < 0 ? target : target.substring(0, mark);
            request.method = new Part("", line.substring(0, methodEnd));
            request.path = new Part("", decode(path));
            return mark < 0 || readParameters(target.substring(mark + 1), request.parameters);
        }

        private static boolean isMethod(String line, int end) {
            if (end < 1 || end > MOST_METHOD) {
                return false;
            }
            for (int i = 0; i < end; i++) {
                if (!Texts.isCapital(line.charAt(i))) {
                    return false;
                }
            }
            return true;
        }

        /** All of a target may be looked at at once: no sign that parts it is a digit. */
        private static boolean hasGoodCodes(String target) {
            for (int i = 0; i < target.length(); i++) {
                if (target.charAt(i) == '%' && !Texts.isPlain(codeAt(target, i))) {
                    return false;
                }
            }
            return true;
        }

        /** The code that the % at this place and two digits behind it tell, -1 if they are not there. */
        private static int codeAt(String text, int percent) {
            if (percent + 2 >= text.length()) {
                return -1;
            }
            int high = Texts.hexDigit(text.charAt(percent + 1));
            int low = Texts.hexDigit(text.charAt(percent + 2));
            return high < 0 || low < 0 ? -1 : 16 * high + low;
        }

        private String decode(String text) {
            decoded.setLength(0);
            for (int i = 0; i < text.length(); i++) {
                char c = text.charAt(i);
                if (c == '%') {
                    decoded.append((char) codeAt(text, i));
                    i += 2;
                } else {
                    decoded.append(c);
                }
            }
            return decoded.toString();
        }

        private boolean readParameters(String text, ArrayList<Part> parameters) {
            int from = 0;
            for (int i = 0; i <= text.length(); i++) {
                if (i < text.length() && text.charAt(i) != '&') {
                    continue;
                }
                String parameter = text.substring(from, i);
                int sign = parameter.indexOf('=');
                String name = sign < 0 ? parameter : parameter.substring(0, sign);
                String value = sign < 0 ? "" : parameter.substring(sign + 1);
                if (name.isEmpty() || parameters.size() >= MOST_PARAMETERS) {
                    return false;
                }
                parameters.add(new Part(decode(name), decode(value)));
                from = i + 1;
            }
            return true;
        }
    }

    private static final class Request {
        static final int METHOD = 0;
        static final int PATH = 1;
        static final int PARAMETER = 2;
        static final int HEADER = 3;
        static final int BODY = 4;

        final ArrayList<Part> parameters = new ArrayList<>();
        final ArrayList<Part> headers = new ArrayList<>();
        Part method = new Part("", "");
        Part path = method;
        Part body = method;
        int chosenId = -1;

        /** Null if the request has no such part; the name of a header is in small letters. */
        Part find(int part, String name) {
            switch (part) {
                case METHOD:
                    return method;
                case PATH:
                    return path;
                case PARAMETER:
                    return firstOf(parameters, name);
                case HEADER:
                    return firstOf(headers, name);
                default:
                    return body;
            }
        }

        private static Part firstOf(ArrayList<Part> parts, String name) {
            for (int i = 0; i < parts.size(); i++) {
                if (parts.get(i).name.equals(name)) {
                    return parts.get(i);
                }
            }
            return null;
        }

        /** Any header conn may ask for it, not only the first. */
        boolean asksToClose() {
            for (int i = 0; i < headers.size(); i++) {
                Part header = headers.get(i);
                if (header.name.equals("conn") && header.value.equals("close")) {
                    return true;
                }
            }
            return false;
        }
    }

    /** A piece of a request; the name of a header is kept in small letters, so that equals suffices. */
    private static final class Part {
        final String name;
        final String value;

        Part(String name, String value) {
            this.name = name;
            this.value = value;
        }
    }

    private static final class Matcher {
        static final int EQUAL = 0;
        static final int CONTAINS = 1;
        static final int FITS = 2;
        static final int ABSENT = 3;
        static final int PRESENT = 4;

        private final int part;
        private final int way;
        private final String name;
        private final String text;
        private final Pattern pattern;

        private Matcher(int part, int way, String name, String text, Pattern pattern) {
            this.part = part;
            this.way = way;
            this.name = name;
            this.text = text;
            this.pattern = pattern;
        }

        /** Null if there is no such matcher. */
        static Matcher of(int part, int way, String typed) {
            if (part < Request.METHOD || part > Request.BODY || way < EQUAL || way > PRESENT) {
                return null;
            }
            boolean hasName = part == Request.PARAMETER || part == Request.HEADER;
            boolean hasText = way != ABSENT && way != PRESENT;
            if (!hasName) {
                return hasText ? withText(part, way, "", typed) : null;
            }
            int space = typed.indexOf(' ');
            if (typed.isEmpty() || space == 0 || hasText != space > 0) {
                return null;
            }
            String name = hasText ? typed.substring(0, space) : typed;
            String text = hasText ? typed.substring(space + 1) : "";
            return withText(part, way, part == Request.HEADER ? Texts.small(name) : name, text);
        }

        private static Matcher withText(int part, int way, String name, String text) {
            if (way != FITS) {
                return new Matcher(part, way, name, text, null);
            }
            Pattern pattern = new Pattern(text);
            return pattern.isGood() ? new Matcher(part, way, name, text, pattern) : null;
        }

        boolean holds(Request request) {
            Part found = request.find(part, name);
            if (way == ABSENT || found == null) {
                return way == ABSENT && found == null;
            }
            switch (way) {
                case EQUAL:
                    return found.value.equals(text);
                case CONTAINS:
                    return Texts.contains(found.value, text);
                case FITS:
                    return pattern != null && pattern.fits(found.value);
                default:
                    return true;
            }
        }
    }

    /**
     * A pattern as places in a row: one for each piece, and one behind each row of pieces. A text is
     * tried with all places at once, as bits of a long, so that no pattern takes long.
     */
    private static final class Pattern {
        static final int NO_PLACE = -1;

        private final String text;
        // For each character of the text the place of the piece that allows it, or NO_PLACE.
        private final int[] placeOfSign;
        private int places;
        private long starts = 1;
        private long ends;
        private long anyOnes;
        private long leavable;
        private long repeatable;
        private final boolean good;

        Pattern(String text) {
            this.text = text;
            placeOfSign = new int[text.length()];
            good = readPieces();
            endRow();
        }

        boolean isGood() {
            return good;
        }

        private boolean readPieces() {
            boolean inSet = false;
            boolean setIsEmpty = false;
            boolean behindPiece = false;
            for (int i = 0; i < text.length(); i++) {
                char c = text.charAt(i);
                placeOfSign[i] = NO_PLACE;
                if (inSet && c != '[' && c != ']') {
                    placeOfSign[i] = places;
                    setIsEmpty = false;
                } else if (inSet) {
                    if (c == '[' || setIsEmpty) {
                        return false;
                    }
                    places++;
                    inSet = false;
                    behindPiece = true;
                } else if (c == '[') {
                    inSet = true;
                    setIsEmpty = true;
                } else if (c == '|') {
                    endRow();
                    starts |= 1L << places;
                    behindPiece = false;
                } else if (c == '*' || c == '?') {
                    if (!behindPiece) {
                        return false;
                    }
                    markPiece(c == '*');
                    behindPiece = false;
                } else if (c == ']') {
                    return false;
                } else {
                    addPiece(c, i);
                    behindPiece = true;
                }
            }
            return !inSet;
        }

        private void addPiece(char c, int i) {
            if (c == '.') {
                anyOnes |= 1L << places;
            } else {
                placeOfSign[i] = places;
            }
            places++;
        }

        private void markPiece(boolean repeats) {
            long piece = 1L << places - 1;
            leavable |= piece;
            repeatable |= repeats ? piece : 0;
        }

        private void endRow() {
            ends |= 1L << places;
            places++;
        }

        boolean fits(String part) {
            long now = withLeft(starts);
            for (int k = 0; k < part.length() && now != 0; k++) {
                long taking = now & placesAllowing(part.charAt(k));
                now = withLeft(taking & repeatable | (taking & ~repeatable) << 1);
            }
            return (now & ends) != 0;
        }

        /** These places, and those that are reached from them by leaving out pieces. */
        private long withLeft(long reached) {
            long all = reached;
            for (int i = 0; i < places; i++) {
                all |= (all & leavable & 1L << i) << 1;
            }
            return all;
        }

        private long placesAllowing(char c) {
            long allowing = anyOnes;
            for (int i = 0; i < text.length(); i++) {
                if (text.charAt(i) == c && placeOfSign[i] != NO_PLACE) {
                    allowing |= 1L << placeOfSign[i];
                }
            }
            return allowing;
        }
    }

    private static final class Scene {
        final int scenario;
        final int need;
        final int next;

        Scene(int scenario, int need, int next) {
            this.scenario = scenario;
            this.need = need;
            this.next = next;
        }
    }

    private static final class Stub {
        final int id;
        final int priority;
        final int status;
        final Template template;
        final ArrayList<Matcher> matchers;
        // Null as long as it has none.
        Scene scene;

        Stub(int id, int priority, int status, String template, ArrayList<Matcher> matchers) {
            this.id = id;
            this.priority = priority;
            this.status = status;
            this.template = new Template(template);
            this.matchers = matchers;
        }
    }

    private static final class Template {
        static final int MOST_FILLED = 60;

        private final String text;

        Template(String text) {
            this.text = text;
        }

        String fill(Request request, int number) {
            StringBuilder filled = new StringBuilder();
            for (int i = 0; i < text.length() && filled.length() < MOST_FILLED; i++) {
                int close = closeOf(i);
                if (close < 0) {
                    filled.append(text.charAt(i));
                } else {
                    appendFor(filled, i, close, request, number);
                    i = close;
                }
            }
            if (filled.length() > MOST_FILLED) {
                filled.setLength(MOST_FILLED);
            }
            return filled.toString();
        }

        /** Where the } is that ends what the { at this place begins; -1 if this stands for itself. */
        private int closeOf(int open) {
            if (text.charAt(open) != '{' || open + 2 >= text.length()) {
                return -1;
            }
            char kind = text.charAt(open + 1);
            if (kind != 'q' && kind != 'h') {
                boolean known = kind == 'm' || kind == 'p' || kind == 'b' || kind == 'n';
                return known && text.charAt(open + 2) == '}' ? open + 2 : -1;
            }
            for (int i = open + 2; i < text.length(); i++) {
                if (text.charAt(i) == '}') {
                    return i > open + 2 ? i : -1;
                }
            }
            return -1;
        }

        private void appendFor(StringBuilder filled, int open, int close, Request request, int number) {
            String name = text.substring(open + 2, close);
            switch (text.charAt(open + 1)) {
                case 'm':
                    filled.append(request.method.value);
                    break;
                case 'p':
                    filled.append(request.path.value);
                    break;
                case 'b':
                    filled.append(request.body.value);
                    break;
                case 'n':
                    filled.append(number);
                    break;
                case 'q':
                    appendValue(filled, request.find(Request.PARAMETER, name));
                    break;
                default:
                    appendValue(filled, request.find(Request.HEADER, Texts.small(name)));
                    break;
            }
        }

        private static void appendValue(StringBuilder filled, Part part) {
            if (part != null) {
                filled.append(part.value);
            }
        }
    }

    private static final class Texts {
        private Texts() {
        }

        static boolean isPlain(int c) {
            return c >= 32 && c <= 126;
        }

        static boolean isDigit(int c) {
            return c >= '0' && c <= '9';
        }

        static boolean isCapital(int c) {
            return c >= 'A' && c <= 'Z';
        }

        static boolean isSmall(int c) {
            return c >= 'a' && c <= 'z';
        }

        static int hexDigit(int c) {
            if (c >= '0' && c <= '9') {
                return c - '0';
            }
            if (c >= 'a' && c <= 'f') {
                return c - 'a' + 10;
            }
            return c >= 'A' && c <= 'F' ? c - 'A' + 10 : -1;
        }

        static String small(String text) {
            char[] row = text.toCharArray();
            for (int i = 0; i < row.length; i++) {
                if (isCapital(row[i])) {
                    row[i] = (char) (row[i] + 32);
                }
            }
            return new String(row);
        }

        /** The text from this place on, without the spaces at its ends. */
        static String trimmed(String text, int start) {
            int from = start;
            int to = text.length();
            while (from < to && text.charAt(from) == ' ') {
                from++;
            }
            while (to > from && text.charAt(to - 1) == ' ') {
                to--;
            }
            return text.substring(from, to);
        }

        static boolean contains(String text, String sought) {
            for (int start = 0; start + sought.length() <= text.length(); start++) {
                int same = 0;
                while (same < sought.length() && text.charAt(start + same) == sought.charAt(same)) {
                    same++;
                }
                if (same == sought.length()) {
                    return true;
                }
            }
            return false;
        }
    }
}
