/** Promises 8 and 13: match, and count, which tells for which requests matchers hold. */
public final class MatchTest {
    private static final String REQUEST =
            "PUT /a%20b?k=v&k=w&e&K=z H1\r\nX-Y: one two \r\nx-y:2\r\nno:\r\nlen:3\r\n\r\nb y";

    public static void main(String[] args) {
        wrongPartsAndWays();
        wrongTyped();
        atMostFour();
        refusedChangesNothing();
        equal();
        contains();
        absentAndPresent();
        goodPatterns();
        badPatterns();
        fitting();
        hardPatterns();
        counting();
        Probe.end();
    }

    private static void wrongPartsAndWays() {
        int[] wrong = {-1, 5, 6, Integer.MIN_VALUE, Integer.MAX_VALUE};
        Probe p = new Probe();
        p.type("a b");
        for (int w : wrong) {
            for (int other = 0; other < 5; other++) {
                Probe.due("match(" + w + ", " + other + ")", p.server.match(w, other), false);
                Probe.due("match(" + other + ", " + w + ")", p.server.match(other, w), false);
            }
        }
        int[] unnamed = {Probe.METHOD, Probe.PATH, Probe.BODY};
        for (int part : unnamed) {
            Probe.due("absent part " + part, new Probe().match(part, Probe.ABSENT, "a"), false);
            Probe.due("present part " + part, new Probe().match(part, Probe.PRESENT, "a"), false);
            Probe.due("empty text of part " + part, new Probe().match(part, Probe.EQUAL, ""), true);
            Probe.due("text with a space of part " + part, new Probe().match(part, Probe.FITS, " a "), true);
        }
    }

    private static void wrongTyped() {
        for (int part = Probe.PARAMETER; part <= Probe.HEADER; part++) {
            for (int way = 0; way < 5; way++) {
                boolean hasText = way < Probe.ABSENT;
                String what = "part " + part + " way " + way + " of ";
                Probe.due(what + "nothing", new Probe().match(part, way, ""), false);
                Probe.due(what + "a space", new Probe().match(part, way, " "), false);
                Probe.due(what + "no name", new Probe().match(part, way, " a"), false);
                Probe.due(what + "no space", new Probe().match(part, way, "a"), !hasText);
                Probe.due(what + "name and text", new Probe().match(part, way, "a b"), hasText);
                Probe.due(what + "name and no text", new Probe().match(part, way, "a "), hasText);
                Probe.due(what + "several spaces", new Probe().match(part, way, "a  b c "), hasText);
            }
        }
    }

    private static void atMostFour() {
        Probe p = new Probe();
        for (int i = 0; i < 4; i++) {
            Probe.due("matcher " + i, p.match(Probe.METHOD, Probe.EQUAL, "G"), true);
        }
        Probe.due("the fifth one", p.match(Probe.METHOD, Probe.EQUAL, "G"), false);
        p.server.count();
        Probe.due("behind count", p.server.match(Probe.METHOD, Probe.EQUAL), true);
        for (int i = 1; i < 4; i++) {
            p.match(Probe.METHOD, Probe.EQUAL, "G");
        }
        p.server.stub(0, 200);
        Probe.due("behind stub", p.match(Probe.METHOD, Probe.EQUAL, "G"), true);
    }

    private static void refusedChangesNothing() {
        Probe p = new Probe();
        p.send(0, Probe.GET + "\r\n");
        p.type("x*");
        p.server.match(Probe.PARAMETER, Probe.EQUAL);
        p.server.match(Probe.METHOD, Probe.ABSENT);
        p.server.match(9, 9);
        Probe.due("no matcher came", p.server.count(), 1);
        p.server.stub(0, 200);
        Probe.due("what was typed stayed", p.ask(Probe.GET + "\r\n"), "200 2\nx*");
        p.type("G");
        p.server.match(Probe.METHOD, Probe.EQUAL);
        p.server.stub(0, 201);
        Probe.due("nothing is typed behind match", p.ask(Probe.GET + "\r\n"), "201 0\n");
    }

    private static Probe withRequest() {
        Probe p = new Probe();
        p.send(0, REQUEST);
        Probe.due("served", p.server.served(), 1);
        return p;
    }

    private static void holds(int part, int way, String typed, boolean want) {
        Probe.due("part " + part + " way " + way + " [" + typed + "]", withRequest().counted(part, way, typed), want ? 1 : 0);
    }

    private static void equal() {
        holds(Probe.METHOD, Probe.EQUAL, "PUT", true);
        holds(Probe.METHOD, Probe.EQUAL, "PU", false);
        holds(Probe.METHOD, Probe.EQUAL, "put", false);
        holds(Probe.METHOD, Probe.EQUAL, "", false);
        holds(Probe.PATH, Probe.EQUAL, "/a b", true);
        holds(Probe.PATH, Probe.EQUAL, "/a%20b", false);
        holds(Probe.PARAMETER, Probe.EQUAL, "k v", true);
        holds(Probe.PARAMETER, Probe.EQUAL, "k w", false);
        holds(Probe.PARAMETER, Probe.EQUAL, "K z", true);
        holds(Probe.PARAMETER, Probe.EQUAL, "e ", true);
        holds(Probe.PARAMETER, Probe.EQUAL, "n ", false);
        holds(Probe.PARAMETER, Probe.EQUAL, "E ", false);
        holds(Probe.PARAMETER, Probe.EQUAL, "k  v", false);
        holds(Probe.HEADER, Probe.EQUAL, "x-y one two", true);
        holds(Probe.HEADER, Probe.EQUAL, "X-Y one two", true);
        holds(Probe.HEADER, Probe.EQUAL, "x-y 2", false);
        holds(Probe.HEADER, Probe.EQUAL, "x-y One two", false);
        holds(Probe.HEADER, Probe.EQUAL, "NO ", true);
        holds(Probe.HEADER, Probe.EQUAL, "none ", false);
        holds(Probe.BODY, Probe.EQUAL, "b y", true);
        holds(Probe.BODY, Probe.EQUAL, "b", false);
    }

    private static void contains() {
        holds(Probe.METHOD, Probe.CONTAINS, "", true);
        holds(Probe.METHOD, Probe.CONTAINS, "PUT", true);
        holds(Probe.METHOD, Probe.CONTAINS, "UT", true);
        holds(Probe.METHOD, Probe.CONTAINS, "PUTX", false);
        holds(Probe.METHOD, Probe.CONTAINS, "PT", false);
        holds(Probe.PATH, Probe.CONTAINS, "a b", true);
        holds(Probe.PATH, Probe.CONTAINS, "?", false);
        holds(Probe.PARAMETER, Probe.CONTAINS, "k ", true);
        holds(Probe.PARAMETER, Probe.CONTAINS, "e ", true);
        holds(Probe.PARAMETER, Probe.CONTAINS, "n ", false);
        holds(Probe.HEADER, Probe.CONTAINS, "x-Y e t", true);
        holds(Probe.HEADER, Probe.CONTAINS, "none ", false);
        holds(Probe.BODY, Probe.CONTAINS, " ", true);
        holds(Probe.BODY, Probe.CONTAINS, "yb", false);
        Probe p = new Probe();
        p.send(0, "AAAAB / H1\r\nlen:5\r\n\r\naabab");
        Probe.due("after a part of it", p.counted(Probe.METHOD, Probe.CONTAINS, "AAB"), 1);
        Probe.due("after a part of it", p.counted(Probe.BODY, Probe.CONTAINS, "abab"), 1);
        Probe q = new Probe();
        q.send(0, Probe.GET + "\r\n");
        Probe.due("without a body", q.counted(Probe.BODY, Probe.EQUAL, ""), 1);
        Probe.due("without a body", q.counted(Probe.BODY, Probe.CONTAINS, ""), 1);
        Probe.due("without a body", q.counted(Probe.BODY, Probe.CONTAINS, "a"), 0);
        Probe.due("without a body", q.counted(Probe.BODY, Probe.FITS, "a*"), 1);
    }

    private static void absentAndPresent() {
        String[] parameters = {"k", "e", "K"};
        for (String name : parameters) {
            holds(Probe.PARAMETER, Probe.PRESENT, name, true);
            holds(Probe.PARAMETER, Probe.ABSENT, name, false);
        }
        String[] headers = {"x-y", "X-Y", "no", "LEN"};
        for (String name : headers) {
            holds(Probe.HEADER, Probe.PRESENT, name, true);
            holds(Probe.HEADER, Probe.ABSENT, name, false);
        }
        String[] neither = {"E", "kk", "x", "y", "x-y:", "X_Y", "v"};
        for (String name : neither) {
            holds(Probe.PARAMETER, Probe.PRESENT, name, false);
            holds(Probe.PARAMETER, Probe.ABSENT, name, true);
            holds(Probe.HEADER, Probe.PRESENT, name, false);
            holds(Probe.HEADER, Probe.ABSENT, name, true);
        }
    }

    private static void goodPatterns() {
        String[] good = {"", "a", ".", "a*", "a?", ".*", "[a]", "[ab]*", "[.*?|]?", "|", "||", "a||b", "|a", "a|", "a*b?c",
            "a b", "{}()+^$\\", "[^a]", "[a-b]", "a*|b?", "[ ]", Probe.times("|", 40), Probe.times("a?", 20)};
        for (String text : good) {
            Probe.due("pattern " + text, new Probe().match(Probe.PATH, Probe.FITS, text), true);
            Probe.due("header pattern " + text,
                    text.length() > 38 || new Probe().match(Probe.HEADER, Probe.FITS, "h " + text), true);
        }
    }

    private static void badPatterns() {
        String[] bad = {"*", "?", "a**", "a??", "a*?", "a?*", "|*", "a|?", "[", "]", "[]", "a]", "[a", "[[]", "[a[b]]", "[]]",
            "[a]]", "a[", "[]a]", "[a]**", "x[*", "a|[", "[|]|*", "ab]c", "[a][", ".**"};
        for (String text : bad) {
            Probe.due("no pattern " + text, new Probe().match(Probe.PATH, Probe.FITS, text), false);
            Probe.due("no parameter pattern " + text, new Probe().match(Probe.PARAMETER, Probe.FITS, "h " + text), false);
            Probe.due("but a text " + text, new Probe().match(Probe.PATH, Probe.CONTAINS, text), true);
        }
    }

    private static void fits(String pattern, String body, boolean want) {
        Probe p = new Probe();
        p.send(0, Probe.GET + "len:" + body.length() + "\r\n\r\n" + body);
        Probe.due("[" + pattern + "] for [" + body + "]", p.counted(Probe.BODY, Probe.FITS, pattern), want ? 1 : 0);
    }

    private static void fitting() {
        String[][] yes = {{"", ""}, {"a", "a"}, {".", "\0"}, {".", "\u00ff"}, {"a*", ""}, {"a*", "aaa"}, {"a?", ""}, {"a?", "a"},
            {".*", "x\ny"}, {"[abc]", "b"}, {"[abc]*", "cab"}, {"a|b", "b"}, {"a|b", "a"}, {"a|", ""}, {"|a", "a"},
            {"a||b", ""}, {"a.c", "abc"}, {"a*ab", "aaab"}, {"a?a?b", "ab"}, {"[.]", "."}, {"[|*?]*", "?*|"}, {"a*b|c*d", "ccd"},
            {".*b.*", "aabaa"}, {"x?|yz", "yz"}, {"[a-c]", "-"}, {"[^a]", "^"}, {"a*a*a*", "aaaa"}, {"\\", "\\"}, {"a[b]?c", "ac"},
            {"[aa]", "a"}, {"[ab]b*", "abbb"}, {"a?b?c?", "ac"}, {"a*b*c*", "c"}};
        for (String[] pair : yes) {
            fits(pair[0], pair[1], true);
        }
        String[][] no = {{"", "a"}, {"a", ""}, {"a", "aa"}, {"a", "A"}, {".", ""}, {".", "ab"}, {"a?", "aa"}, {"a*", "aab"},
            {"[abc]", "d"}, {"[abc]", ""}, {"[a-c]", "b"}, {"[^a]", "b"}, {"a|b", "ab"}, {"a|b", "c"}, {"ab|cd", "abd"}, {"[.]", "a"},
            {"a*ab", "b"}, {".*b", "ba"}, {"a?a?", "aaa"}, {"ab*", "abab"}, {"[ab]b", "ab b"}, {"ab|c", "ac"}, {"a|bc", "ac"},
            {"[ab]", "ab"}, {"a*|b", "ab"}, {"a?b?c?", "ca"}};
        for (String[] pair : no) {
            fits(pair[0], pair[1], false);
        }
        Probe p = withRequest();
        Probe.due("a parameter", p.counted(Probe.PARAMETER, Probe.FITS, "k [vw]"), 1);
        Probe.due("no such parameter", p.counted(Probe.PARAMETER, Probe.FITS, "n .*"), 0);
        Probe.due("a header", p.counted(Probe.HEADER, Probe.FITS, "X-y one.*|two"), 1);
        Probe.due("the first header counts", p.counted(Probe.HEADER, Probe.FITS, "x-y 2"), 0);
        Probe.due("a path", p.counted(Probe.PATH, Probe.FITS, "/. ."), 1);
        Probe.due("a method", p.counted(Probe.METHOD, Probe.FITS, "GET|P[UO]S?T"), 1);
        Probe.due("all of the method", p.counted(Probe.METHOD, Probe.FITS, "P.|UT"), 0);
    }

    private static void hardPatterns() {
        fits(Probe.times("a*", 20), Probe.times("a", 40), true);
        fits(Probe.times("a*", 20), Probe.times("a", 39) + "b", false);
        fits(Probe.times("a?", 20), Probe.times("a", 20), true);
        fits(Probe.times("a?", 20), Probe.times("a", 21), false);
        fits(Probe.times(".*", 19) + "b", Probe.times("a", 40), false);
        fits(Probe.times("a", 40), Probe.times("a", 40), true);
        fits(Probe.times("a", 40), Probe.times("a", 39), false);
        fits(Probe.times("|", 39) + "x", "x", true);
        fits(Probe.times("|", 40), "", true);
        fits(Probe.times("|", 40), "|", false);
        fits("[" + Probe.times("z", 37) + "y]", "y", true);
    }

    private static void counting() {
        Probe p = new Probe();
        for (int i = 0; i < 7; i++) {
            p.send(0, "G /" + i + "?i=" + i % 2 + " H1\r\n\r\n");
        }
        Probe.due("without matchers", p.server.count(), 5);
        Probe.due("gone from the journal", p.counted(Probe.PATH, Probe.FITS, "/[01]"), 0);
        Probe.due("in the journal", p.counted(Probe.PATH, Probe.FITS, "/[26]"), 2);
        p.match(Probe.PARAMETER, Probe.EQUAL, "i 1");
        p.match(Probe.PATH, Probe.FITS, "/[234]");
        p.type("kept");
        Probe.due("all matchers must hold", p.server.count(), 1);
        Probe.due("the draft is empty then", p.server.count(), 5);
        p.server.stub(0, 200);
        Probe.due("what is typed stays", p.ask(Probe.GET + "\r\n"), "200 4\nkept");
        p.server.reset();
        p.match(Probe.METHOD, Probe.EQUAL, "X");
        Probe.due("of an empty journal", p.server.count(), 0);
        p.server.stub(0, 201);
        Probe.due("the draft is empty also then", p.ask(Probe.GET + "\r\n"), "201 0\n");
    }
}
