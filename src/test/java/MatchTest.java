/** The term MATCHER, and promises 8 and 13: match, and count, which tells for which requests matchers hold. */
public final class MatchTest {
    private static final String REQUEST =
            "PUT /a%20b?k=v&k=w&e&K=z H1\r\nX-Y: one two \r\nx-y:2\r\nno:\r\nlen:3\r\n\r\nb y";
    private static final int[] UNNAMED = {Probe.METHOD, Probe.PATH, Probe.BODY};
    private static final int[] NAMED = {Probe.PARAMETER, Probe.HEADER};

    public static void main(String[] args) {
        partsAndWays();
        onlyForNamedParts();
        absentAndPresent();
        thePartMustBeThere();
        theFirstCounts();
        withoutABody();
        equal();
        somewhere();
        fitsAsAPattern();
        nothingIsTypedThen();
        namesAndTexts();
        onlyTexts();
        wrongPartsAndWays();
        atMostFour();
        emptyNames();
        namesWithASpace();
        noSpace();
        noPattern();
        counting();
        countingWithoutMatchers();
        theDraftIsEmptyThen();
        Probe.end();
    }

    private static Probe withRequest() {
        Probe p = new Probe();
        p.send(0, REQUEST);
        return p;
    }

    private static void holds(int part, int way, String typed, boolean want) {
        Probe.due("part " + part + " way " + way + " [" + typed + "]", withRequest().counted(part, way, typed), want ? 1 : 0);
    }

    private static void taken(int part, int way, String typed) {
        Probe p = new Probe();
        Probe.due("part " + part + " way " + way + " [" + typed + "]", p.match(part, way, typed), true);
        Probe.due("typed behind part " + part + " way " + way, p.typed(), "");
    }

    /** A refused matcher leaves what was typed, and comes to no draft. */
    private static void refused(int part, int way, String typed) {
        Probe p = new Probe();
        Probe.due("part " + part + " way " + way + " [" + typed + "]", p.match(part, way, typed), false);
        p.send(0, Probe.REQUEST);
        Probe.due("no matcher came", p.server.count(), 1);
        Probe.due("what was typed stayed", p.typed(), typed);
    }

    private static void partsAndWays() {
        Probe.sentence("Term MATCHER",
                "A MATCHER has a PART: 0 METHOD, 1 PATH, 2 a PARAMETER of a name, 3 a HEADER of a name, 4 BODY; and a way: 0 EQUAL, 1 CONTAINS, 2 FITS");
        String[] equal = {"PUT", "/a b", "k v", "x-y one two", "b y"};
        String[] contained = {"U", "a ", "k ", "x-y e t", " "};
        String[] fitting = {"P.*", "/[ab ]*", "k v?", "x-y one.*", "b.y"};
        for (int part = 0; part <= 4; part++) {
            holds(part, 0, equal[part], true);
            holds(part, 0, contained[part], false);
            holds(part, 1, equal[part], true);
            holds(part, 1, contained[part], true);
            holds(part, 1, fitting[part], false);
            holds(part, 2, equal[part], true);
            holds(part, 2, fitting[part], true);
            holds(part, 2, equal[part] + "x", false);
        }
    }

    private static void onlyForNamedParts() {
        Probe.sentence("Term MATCHER", "3 ABSENT, 4 PRESENT (the last two for the parts 2 and 3 alone)");
        for (int way = Probe.ABSENT; way <= Probe.PRESENT; way++) {
            for (int part : NAMED) {
                taken(part, way, "n");
            }
            for (int part : UNNAMED) {
                refused(part, way, "n");
                refused(part, way, "");
                refused(part, way, "n t");
            }
        }
    }

    private static void absentAndPresent() {
        Probe.sentence("Term MATCHER", "ABSENT, PRESENT: the request has no, or has, one of that name");
        String[] parameters = {"k", "e", "K"};
        for (String name : parameters) {
            holds(Probe.PARAMETER, Probe.PRESENT, name, true);
            holds(Probe.PARAMETER, Probe.ABSENT, name, false);
        }
        String[] headers = {"x-y", "X-Y", "no", "LEN"};
        for (String name : headers) {
            holds(Probe.HEADER, Probe.PRESENT, name, true);
            holds(Probe.HEADER, Probe.ABSENT, name, false);
        }
        String[] neither = {"E", "kk", "x", "y", "x-y:", "X_Y", "v", "xxy", "z", Probe.times("n", 40)};
        for (String name : neither) {
            holds(Probe.PARAMETER, Probe.PRESENT, name, false);
            holds(Probe.PARAMETER, Probe.ABSENT, name, true);
            holds(Probe.HEADER, Probe.PRESENT, name, false);
            holds(Probe.HEADER, Probe.ABSENT, name, true);
        }
        holds(Probe.HEADER, Probe.PRESENT, "k", false);
        holds(Probe.PARAMETER, Probe.PRESENT, "len", false);
    }

    private static void thePartMustBeThere() {
        Probe.sentence("Term MATCHER", "else it has the part");
        String[] texts = {"", ".*", "a"};
        for (String text : texts) {
            for (int way = Probe.EQUAL; way <= Probe.FITS; way++) {
                holds(Probe.PARAMETER, way, "none " + text, false);
                holds(Probe.HEADER, way, "none " + text, false);
                holds(Probe.PARAMETER, way, "E " + text, false);
            }
        }
        holds(Probe.PARAMETER, Probe.EQUAL, "e ", true);
        holds(Probe.PARAMETER, Probe.CONTAINS, "e ", true);
        holds(Probe.PARAMETER, Probe.FITS, "e ", true);
        holds(Probe.HEADER, Probe.EQUAL, "no ", true);
        holds(Probe.HEADER, Probe.CONTAINS, "NO ", true);
        holds(Probe.HEADER, Probe.FITS, "no ", true);
    }

    private static void theFirstCounts() {
        Probe.sentence("Term MATCHER", "of several of one name the first counts");
        for (int way = Probe.EQUAL; way <= Probe.FITS; way++) {
            holds(Probe.PARAMETER, way, "k v", true);
            holds(Probe.PARAMETER, way, "k w", false);
            holds(Probe.HEADER, way, "x-y one two", true);
            holds(Probe.HEADER, way, "x-y 2", false);
        }
        Probe p = new Probe();
        p.send(0, "G /?a&a=1&a=2 H1\r\nh:\r\nH:1\r\n\r\n");
        Probe.due("also an empty first one", p.counted(Probe.PARAMETER, Probe.EQUAL, "a "), 1);
        Probe.due("not the second", p.counted(Probe.PARAMETER, Probe.EQUAL, "a 1"), 0);
        Probe.due("not the last", p.counted(Probe.PARAMETER, Probe.EQUAL, "a 2"), 0);
        Probe.due("an empty first header", p.counted(Probe.HEADER, Probe.EQUAL, "h "), 1);
        Probe.due("not the second header", p.counted(Probe.HEADER, Probe.EQUAL, "h 1"), 0);
    }

    private static void withoutABody() {
        Probe.sentence("Term MATCHER", "without a body it is the empty text");
        String[] requests = {Probe.REQUEST, Probe.GET + "len:0\r\n\r\n", Probe.GET + "chunked:yes\r\n\r\n0\r\n\r\n"};
        for (String request : requests) {
            Probe p = new Probe();
            p.send(0, request);
            Probe.due("equal", p.counted(Probe.BODY, Probe.EQUAL, ""), 1);
            Probe.due("contains", p.counted(Probe.BODY, Probe.CONTAINS, ""), 1);
            Probe.due("fits", p.counted(Probe.BODY, Probe.FITS, ""), 1);
            Probe.due("fits a*", p.counted(Probe.BODY, Probe.FITS, "a*"), 1);
            Probe.due("not equal", p.counted(Probe.BODY, Probe.EQUAL, " "), 0);
            Probe.due("contains nothing", p.counted(Probe.BODY, Probe.CONTAINS, "a"), 0);
            Probe.due("fits nothing", p.counted(Probe.BODY, Probe.FITS, "."), 0);
        }
    }

    private static void equal() {
        Probe.sentence("Term MATCHER", "and this is the matcher's text");
        holds(Probe.METHOD, Probe.EQUAL, "PUT", true);
        holds(Probe.METHOD, Probe.EQUAL, "PU", false);
        holds(Probe.METHOD, Probe.EQUAL, "UT", false);
        holds(Probe.METHOD, Probe.EQUAL, "PUTT", false);
        holds(Probe.METHOD, Probe.EQUAL, "put", false);
        holds(Probe.METHOD, Probe.EQUAL, "", false);
        holds(Probe.PATH, Probe.EQUAL, "/a b", true);
        holds(Probe.PATH, Probe.EQUAL, "/a%20b", false);
        holds(Probe.PATH, Probe.EQUAL, "/a", false);
        holds(Probe.PARAMETER, Probe.EQUAL, "K z", true);
        holds(Probe.PARAMETER, Probe.EQUAL, "k  v", false);
        holds(Probe.HEADER, Probe.EQUAL, "X-Y one two", true);
        holds(Probe.HEADER, Probe.EQUAL, "x-y One two", false);
        holds(Probe.HEADER, Probe.EQUAL, "x-y one two ", false);
        holds(Probe.BODY, Probe.EQUAL, "b y", true);
        holds(Probe.BODY, Probe.EQUAL, "b", false);
        String forty = Probe.times("0123456789", 4);
        Probe p = new Probe();
        p.send(0, Probe.GET + "len:40\r\n\r\n" + forty);
        Probe.due("the longest", p.counted(Probe.BODY, Probe.EQUAL, forty), 1);
        Probe.due("one fewer", p.counted(Probe.BODY, Probe.EQUAL, forty.substring(1)), 0);
        Probe.due("another last one", p.counted(Probe.BODY, Probe.EQUAL, forty.substring(0, 39) + "x"), 0);
    }

    private static void somewhere() {
        Probe.sentence("Term MATCHER", "has it somewhere (also the empty one)");
        String[] in = {"", "P", "U", "T", "PU", "UT", "PUT"};
        for (String text : in) {
            holds(Probe.METHOD, Probe.CONTAINS, text, true);
        }
        String[] notIn = {"PT", "TU", "p", "PUTX", "XPUT", "PUTPUT", " "};
        for (String text : notIn) {
            holds(Probe.METHOD, Probe.CONTAINS, text, false);
        }
        holds(Probe.PATH, Probe.CONTAINS, "", true);
        holds(Probe.PATH, Probe.CONTAINS, "?", false);
        holds(Probe.PARAMETER, Probe.CONTAINS, "k ", true);
        holds(Probe.HEADER, Probe.CONTAINS, "x-Y two", true);
        holds(Probe.HEADER, Probe.CONTAINS, "x-y three", false);
        holds(Probe.BODY, Probe.CONTAINS, "", true);
        holds(Probe.BODY, Probe.CONTAINS, "yb", false);
        holds(Probe.BODY, Probe.CONTAINS, ".", false);
        Probe p = new Probe();
        p.send(0, "AAAAB / H1\r\nlen:40\r\n\r\n" + Probe.times("a", 33) + "aababac");
        Probe.due("after a part of it", p.counted(Probe.METHOD, Probe.CONTAINS, "AAB"), 1);
        Probe.due("after a part of it", p.counted(Probe.BODY, Probe.CONTAINS, "abac"), 1);
        Probe.due("at the very end", p.counted(Probe.BODY, Probe.CONTAINS, "c"), 1);
        Probe.due("all of it", p.counted(Probe.BODY, Probe.CONTAINS, Probe.times("a", 33) + "aababac"), 1);
        Probe.due("not quite", p.counted(Probe.BODY, Probe.CONTAINS, "abaca"), 0);
    }

    private static void fitsAsAPattern() {
        Probe.sentence("Term MATCHER", "or fits it as a PATTERN");
        String[] fitting = {"PUT", "P.T", ".*", "[PUT]*", "GET|PUT", "PUTX?", "PX*UT"};
        for (String text : fitting) {
            holds(Probe.METHOD, Probe.FITS, text, true);
        }
        String[] not = {"", "PU", "UT", "put", "P.", "PUT.", "GET|PU", "[PU]*"};
        for (String text : not) {
            holds(Probe.METHOD, Probe.FITS, text, false);
        }
        holds(Probe.PATH, Probe.FITS, "/a b", true);
        holds(Probe.PARAMETER, Probe.FITS, "k [vw]", true);
        holds(Probe.HEADER, Probe.FITS, "X-y one.*|2", true);
        holds(Probe.BODY, Probe.FITS, "b y?", true);
        holds(Probe.BODY, Probe.FITS, "b?y", false);
    }

    private static void nothingIsTypedThen() {
        Probe.sentence("Promise 8", "A new matcher of the draft, of that part and way; nothing is typed then.");
        Probe p = new Probe();
        p.type("G");
        Probe.due("match", p.server.match(Probe.METHOD, Probe.EQUAL), true);
        p.server.stub(0, 200);
        Probe.due("its matcher holds, and nothing is typed", p.ask(Probe.REQUEST), "200 0\n");
        Probe.due("or not", p.ask("X / H1\r\n\r\n"), "404 0\n");
    }

    private static void namesAndTexts() {
        Probe.sentence("Promise 8",
                "For the parts 2 and 3 what is typed is the name, and, but for ABSENT and PRESENT, a space and the text (from the first space on)");
        Probe p = new Probe();
        p.send(0, "G /?n=a%20b&m=%20&o H1\r\nh:a b\r\ni:a  b\r\n\r\n");
        for (int way = Probe.EQUAL; way <= Probe.FITS; way++) {
            Probe.due("a text with a space", p.counted(Probe.PARAMETER, way, "n a b"), 1);
            Probe.due("a text of a space", p.counted(Probe.PARAMETER, way, "m  "), 1);
            Probe.due("an empty text", p.counted(Probe.PARAMETER, way, "o "), 1);
            Probe.due("a header's text with a space", p.counted(Probe.HEADER, way, "h a b"), 1);
            Probe.due("with two spaces", p.counted(Probe.HEADER, way, "i a  b"), 1);
            Probe.due("a space too many", p.counted(Probe.HEADER, way, "h  a b"), 0);
        }
        for (int part : NAMED) {
            taken(part, Probe.EQUAL, "n " + Probe.times("t", 38));
            taken(part, Probe.EQUAL, Probe.times("n", 39) + " ");
            taken(part, Probe.PRESENT, Probe.times("n", 40));
            taken(part, Probe.EQUAL, "n   ");
        }
    }

    private static void onlyTexts() {
        Probe.sentence("Promise 8", "else it is the text");
        for (int part : UNNAMED) {
            for (int way = Probe.EQUAL; way <= Probe.FITS; way++) {
                taken(part, way, "");
                taken(part, way, " ");
                taken(part, way, " a ");
                taken(part, way, "a");
                taken(part, way, Probe.times("a", 40));
            }
        }
        holds(Probe.PATH, Probe.EQUAL, "/a b", true);
        holds(Probe.BODY, Probe.CONTAINS, "b y", true);
        holds(Probe.BODY, Probe.EQUAL, " b y", false);
    }

    private static void wrongPartsAndWays() {
        Probe.sentence("Promise 8", "False, refused, if part or way is not as said");
        int[] wrong = {-1, 5, -2, 6, Probe.LOWEST, Probe.HIGHEST};
        for (int w : wrong) {
            for (int other = 0; other < 5; other++) {
                refused(w, other, "a b");
                refused(other, w, "a b");
                refused(w, other, "a");
                refused(other, w, "");
            }
            refused(w, w, "a b");
        }
        for (int part = 0; part <= 4; part++) {
            taken(part, Probe.EQUAL, "a b");
            taken(part, Probe.FITS, "a b");
        }
        taken(Probe.PARAMETER, Probe.PRESENT, "a");
        taken(Probe.HEADER, Probe.PRESENT, "a");
    }

    private static void atMostFour() {
        Probe.sentence("Promise 8", "there are 4");
        Probe p = new Probe();
        for (int i = 0; i < 4; i++) {
            Probe.due("matcher " + i, p.match(Probe.METHOD, Probe.EQUAL, "G"), true);
        }
        Probe.due("the fifth one", p.match(Probe.METHOD, Probe.EQUAL, "XYZ"), false);
        Probe.due("of another part", p.server.match(Probe.BODY, Probe.CONTAINS), false);
        p.send(0, Probe.REQUEST);
        Probe.due("the four hold", p.server.count(), 1);
        Probe.due("what was typed stayed", p.server.match(Probe.METHOD, Probe.EQUAL), true);
        Probe.due("it is the matcher's text now", p.server.count(), 0);
        for (int i = 0; i < 4; i++) {
            Probe.due("behind count: matcher " + i, p.match(Probe.METHOD, Probe.EQUAL, "G"), true);
        }
        Probe.due("a fifth again", p.server.match(Probe.METHOD, Probe.EQUAL), false);
        p.server.stub(0, 200);
        for (int i = 0; i < 4; i++) {
            Probe.due("behind stub: matcher " + i, p.match(Probe.METHOD, Probe.EQUAL, "G"), true);
        }
        Probe.due("a fifth then", p.server.match(Probe.METHOD, Probe.EQUAL), false);
    }

    private static void emptyNames() {
        Probe.sentence("Promise 8", "the name is empty");
        for (int part : NAMED) {
            for (int way = Probe.EQUAL; way <= Probe.PRESENT; way++) {
                refused(part, way, "");
                refused(part, way, " ");
                refused(part, way, " a");
                refused(part, way, "  a");
                refused(part, way, " a b");
                taken(part, way, way < Probe.ABSENT ? "n " : "n");
            }
        }
    }

    private static void namesWithASpace() {
        Probe.sentence("Promise 8", "or (with ABSENT or PRESENT) has a space");
        for (int part : NAMED) {
            for (int way = Probe.ABSENT; way <= Probe.PRESENT; way++) {
                refused(part, way, "a b");
                refused(part, way, "a ");
                refused(part, way, Probe.times("a", 39) + " ");
                taken(part, way, "ab");
                taken(part, way, "!~");
            }
        }
    }

    private static void noSpace() {
        Probe.sentence("Promise 8", "there is no space where one must be");
        for (int part : NAMED) {
            for (int way = Probe.EQUAL; way <= Probe.FITS; way++) {
                refused(part, way, "a");
                refused(part, way, "a=b");
                refused(part, way, Probe.times("a", 40));
                taken(part, way, "a ");
                taken(part, way, "a b");
            }
        }
    }

    private static void noPattern() {
        Probe.sentence("Promise 8", "or the text of FITS is no pattern");
        String[] bad = {"*", "?", "[", "]", "[]", "a**", "a|*"};
        for (String text : bad) {
            for (int part : UNNAMED) {
                refused(part, Probe.FITS, text);
                taken(part, Probe.EQUAL, text);
                taken(part, Probe.CONTAINS, text);
            }
            for (int part : NAMED) {
                refused(part, Probe.FITS, "n " + text);
                taken(part, Probe.EQUAL, "n " + text);
                taken(part, Probe.CONTAINS, "n " + text);
                taken(part, Probe.FITS, text + " a");
                taken(part, Probe.PRESENT, text);
            }
        }
    }

    private static Probe withSeven() {
        Probe p = new Probe();
        for (int i = 0; i < 7; i++) {
            p.send(0, "G /" + i + "?i=" + i % 2 + " H1\r\n\r\n");
        }
        return p;
    }

    private static void counting() {
        Probe.sentence("Promise 13", "For how many requests of the journal all matchers of the draft hold");
        Probe p = withSeven();
        Probe.due("gone from the journal", p.counted(Probe.PATH, Probe.FITS, "/[01]"), 0);
        Probe.due("the oldest", p.counted(Probe.PATH, Probe.EQUAL, "/2"), 1);
        Probe.due("the latest", p.counted(Probe.PATH, Probe.EQUAL, "/6"), 1);
        Probe.due("both", p.counted(Probe.PATH, Probe.FITS, "/[26]"), 2);
        Probe.due("all", p.counted(Probe.METHOD, Probe.EQUAL, "G"), 5);
        p.match(Probe.PARAMETER, Probe.EQUAL, "i 1");
        p.match(Probe.PATH, Probe.FITS, "/[234]");
        Probe.due("all matchers must hold", p.server.count(), 1);
        for (int i = 0; i < 4; i++) {
            p.match(Probe.PATH, Probe.CONTAINS, i == 3 ? "x" : "/");
        }
        Probe.due("also the fourth", p.server.count(), 0);
        Probe q = new Probe();
        q.match(Probe.METHOD, Probe.EQUAL, "");
        q.stub(0, 200, "");
        q.server.scene(0, 0, 3, 3);
        q.send(0, Probe.REQUEST);
        Probe.due("those without a stub too", q.counted(Probe.METHOD, Probe.EQUAL, "G"), 1);
    }

    private static void countingWithoutMatchers() {
        Probe.sentence("Promise 13", "(without any: for all)");
        Probe p = new Probe();
        for (int i = 0; i < 7; i++) {
            Probe.due("behind " + i, p.server.count(), Math.min(i, 5));
            p.send(0, Probe.REQUEST);
        }
        Probe.due("of a full one", p.server.count(), 5);
        p.server.reset();
        Probe.due("of an empty one", p.server.count(), 0);
    }

    private static void theDraftIsEmptyThen() {
        Probe.sentence("Promise 13", "the draft is empty then (what is typed stays)");
        Probe p = withSeven();
        p.match(Probe.PATH, Probe.EQUAL, "/2");
        p.type("kept");
        Probe.due("one", p.server.count(), 1);
        Probe.due("the draft is empty then", p.server.count(), 5);
        Probe.due("what is typed stays", p.typed(), "kept");
        p.server.reset();
        p.match(Probe.METHOD, Probe.EQUAL, "X");
        Probe.due("of an empty journal", p.server.count(), 0);
        p.server.stub(0, 201);
        Probe.due("the draft is empty also then", p.ask(Probe.REQUEST), "201 0\n");
    }
}
