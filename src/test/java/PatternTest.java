/** The term PATTERN. */
public final class PatternTest {
    public static void main(String[] args) {
        piecesOrNone();
        rows();
        allOfThePart();
        plainCharacters();
        anyOne();
        sets();
        setsTellAtLeastOne();
        anyNumber();
        oneOrNone();
        onlyBehindAPiece();
        hardOnes();
        Probe.end();
    }

    private static void pattern(String text, boolean good) {
        Probe.due("a pattern: " + text, new Probe().match(Probe.PATH, Probe.FITS, text), good);
        if (text.length() <= 38) {
            Probe.due("a header's pattern: " + text, new Probe().match(Probe.HEADER, Probe.FITS, "h " + text), good);
            Probe.due("a parameter's pattern: " + text, new Probe().match(Probe.PARAMETER, Probe.FITS, "h " + text), good);
        }
    }

    private static void fits(String pattern, String body, boolean want) {
        Probe p = new Probe();
        p.send(0, Probe.GET + "len:" + body.length() + "\r\n\r\n" + body);
        Probe.due("[" + pattern + "] for [" + Probe.shown(body) + "]", p.counted(Probe.BODY, Probe.FITS, pattern), want ? 1 : 0);
    }

    private static void fitsAll(String pattern, String... bodies) {
        for (String body : bodies) {
            fits(pattern, body, true);
        }
    }

    private static void fitsNone(String pattern, String... bodies) {
        for (String body : bodies) {
            fits(pattern, body, false);
        }
    }

    private static void piecesOrNone() {
        Probe.sentence("Term PATTERN", "A pattern is PIECES in a row (or none)");
        pattern("", true);
        fitsAll("", "");
        fitsNone("", "a", " ", "\0");
        pattern("a", true);
        fitsAll("a", "a");
        fitsAll("abc", "abc");
        fitsNone("abc", "", "ab", "abd", "acb", "abcc", "bc");
        fitsAll("a.[bc]d*", "axb", "a.cdd", "abbd");
        fitsAll("a b", "a b");
        String forty = Probe.times("0123456789", 4);
        pattern(forty, true);
        fitsAll(forty, forty);
        fitsNone(forty, forty.substring(1), forty.substring(0, 39));
    }

    private static void rows() {
        Probe.sentence("Term PATTERN", "or several such rows with one | between each two, one of which must fit");
        fitsAll("a|b", "a", "b");
        fitsNone("a|b", "", "ab", "c", "a|b", "|");
        fitsAll("ab|cd|ef", "ab", "cd", "ef");
        fitsNone("ab|cd|ef", "abcd", "acd", "abd", "abef", "cf", "a", "f");
        fitsAll("a|", "a", "");
        fitsAll("|a", "a", "");
        fitsAll("a||b", "a", "", "b");
        fitsAll("|", "");
        fitsNone("|", "a", "|");
        fitsAll("a*b|c*d", "aab", "b", "ccd", "d");
        fitsNone("a*b|c*d", "ad", "cb", "", "aabccd");
        fitsAll("x?|yz", "", "x", "yz");
        fitsAll("[ab]|.c", "a", "b", "bc", "xc");
        fitsNone("[ab]|.c", "ab", "c", "x");
        String[] good = {"|", "||", "a||b", "|a", "a|", "a*|b?", Probe.times("|", 40)};
        for (String text : good) {
            pattern(text, true);
        }
        fitsAll(Probe.times("|", 40), "");
        fitsAll(Probe.times("|", 39) + "x", "x", "");
        fitsAll("x" + Probe.times("|", 39), "x", "");
    }

    private static void allOfThePart() {
        Probe.sentence("Term PATTERN", "one of which must fit all of the part");
        fitsNone("a", "aa", "ab", "ba", "xax");
        fitsNone("a|b", "ac", "cb");
        fitsNone(".", "ab", "");
        fitsNone("a*", "aab", "baa");
        fitsNone("ab*", "abab");
        fitsNone(".*b", "ba");
        fitsAll(".*b.*", "b", "aabaa");
        Probe p = new Probe();
        p.send(0, "PUT /a%20b?k=vw H1\r\nX: one two\r\n\r\n");
        Probe.due("of the method", p.counted(Probe.METHOD, Probe.FITS, "P.|UT"), 0);
        Probe.due("all of the method", p.counted(Probe.METHOD, Probe.FITS, "GET|P[UO]S?T"), 1);
        Probe.due("of the path", p.counted(Probe.PATH, Probe.FITS, "/.b"), 0);
        Probe.due("all of the path", p.counted(Probe.PATH, Probe.FITS, "/. ."), 1);
        Probe.due("of a parameter", p.counted(Probe.PARAMETER, Probe.FITS, "k v"), 0);
        Probe.due("all of a parameter", p.counted(Probe.PARAMETER, Probe.FITS, "k [vw]*"), 1);
        Probe.due("of a header", p.counted(Probe.HEADER, Probe.FITS, "x one|two"), 0);
        Probe.due("all of a header", p.counted(Probe.HEADER, Probe.FITS, "x one.*|two"), 1);
    }

    private static void plainCharacters() {
        Probe.sentence("Term PATTERN", "a piece is a character other than . * ? | [ ] (this one)");
        for (char c = 32; c <= 126; c++) {
            boolean plain = ".*?|[]".indexOf(c) < 0;
            pattern("" + c, plain || c == '.' || c == '|');
            if (plain) {
                fitsAll("" + c, "" + c);
                fitsNone("" + c, "", "" + (char) (c - 1), "" + (char) (c + 1), "" + (char) (c ^ 32), "" + c + c);
                fitsAll("a" + c + "*b", "ab", "a" + c + "b", "a" + c + c + "b");
            }
        }
        fitsAll("{}()+^$\\", "{}()+^$\\");
        fitsNone("a+", "aa", "a");
    }

    private static void anyOne() {
        Probe.sentence("Term PATTERN", ". (any one)");
        for (int b = 0; b < 256; b++) {
            fitsAll(".", "" + (char) b);
            fitsAll("a.c", "a" + (char) b + "c");
        }
        fitsNone(".", "", "ab");
        fitsAll("..", "ab");
        fitsNone("..", "a", "abc", "");
    }

    private static void sets() {
        Probe.sentence("Term PATTERN", "or [ characters other than [ and ] ] (one of these");
        for (char c = 32; c <= 126; c++) {
            boolean bracket = c == '[' || c == ']';
            pattern("[" + c + "]", !bracket);
            pattern("[a" + c + "b]", !bracket);
            if (!bracket) {
                fitsAll("[" + c + "]", "" + c);
                fitsAll("[a" + c + "]", "a", "" + c);
                fitsNone("[" + c + "]", "", "" + (char) (c - 1), "" + (char) (c + 1), "" + c + c);
            }
        }
        fitsAll("[abc]", "a", "b", "c");
        fitsNone("[abc]", "d", "", "ab", "abc", "[", "]");
        fitsAll("[a-c]", "a", "-", "c");
        fitsNone("[a-c]", "b");
        fitsAll("[^a]", "^", "a");
        fitsNone("[^a]", "b");
        fitsAll("[.]", ".");
        fitsNone("[.]", "a");
        fitsAll("[|*?]*", "?*|", "");
        fitsAll("[aa]", "a");
        fitsAll("x[ab]y", "xay", "xby");
        fitsAll("[ab][cd]", "ac", "bd");
        fitsNone("[ab][cd]", "ab", "cd", "a", "c");
        fitsAll("[" + Probe.times("z", 37) + "y]", "y", "z");
        String[] bad = {"[", "]", "a]", "[a", "[[]", "[a[b]]", "[]]", "[a]]", "a[", "x[*", "a|[", "ab]c", "[a][", "[a|b", "a]|b", "[a[",
            "[a[b", "[a[*", "x[ab[", "[[", "[a]b[c["};
        for (String text : bad) {
            pattern(text, false);
        }
    }

    private static void setsTellAtLeastOne() {
        Probe.sentence("Term PATTERN", "at least one is told)");
        String[] bad = {"[]", "[]a", "a[]", "[]*", "[]?", "[a][]", "a|[]", "[]a]"};
        for (String text : bad) {
            pattern(text, false);
        }
        pattern("[a]", true);
        pattern("[ ]", true);
        pattern("[" + Probe.times("a", 38) + "]", true);
    }

    private static void anyNumber() {
        Probe.sentence("Term PATTERN", "and may be followed by * (any number of them, also none)");
        for (int n = 0; n <= 40; n++) {
            fitsAll("a*", Probe.times("a", n));
            fitsAll(".*", Probe.times("b", n));
            fitsAll("[ab]*", Probe.times("ab", 20).substring(0, n));
        }
        fitsAll(".*", "x\ny\0\u00ff");
        fitsNone("a*", "b", "aab");
        fitsAll("xa*y", "xy", "xay", "xaaay");
        fitsNone("xa*y", "x", "y", "xa", "xby");
        fitsAll("a*ab", "aaab", "ab");
        fitsNone("a*ab", "b");
        fitsAll("a*b*c*", "", "c", "ac", "aabbcc");
        fitsNone("a*b*c*", "ca", "ba", "aba");
        fitsAll("[ab]b*", "a", "b", "abbb");
        fitsNone("[ab]b*", "", "aab");
    }

    private static void oneOrNone() {
        Probe.sentence("Term PATTERN", "or ? (one or none)");
        fitsAll("a?", "", "a");
        fitsNone("a?", "aa", "b");
        fitsAll(".?", "", "x");
        fitsNone(".?", "xx");
        fitsAll("[ab]?", "", "a", "b");
        fitsNone("[ab]?", "ab", "c");
        fitsAll("xa?y", "xy", "xay");
        fitsNone("xa?y", "xaay", "x", "xa", "xby");
        fitsAll("a?a?b", "b", "ab", "aab");
        fitsNone("a?a?b", "aaab");
        fitsAll("a?b?c?", "", "a", "ac", "abc");
        fitsNone("a?b?c?", "ca", "abcc");
        fitsAll("a[b]?c", "ac", "abc");
    }

    private static void onlyBehindAPiece() {
        Probe.sentence("Term PATTERN", "and may be followed by * (any number of them, also none) or ? (one or none)");
        String[] bad = {"*", "?", "*a", "?a", "a**", "a??", "a*?", "a?*", "|*", "|?", "a|*", "a|?", "a*|*", "[a]**", "[a]*?", "[|]|*", ".**", ".?*",
            "a***", "*|a"};
        for (String text : bad) {
            pattern(text, false);
        }
        String[] good = {"a*", "a?", ".*", ".?", "[ab]*", "[ab]?", "a*b?c", "a*a*", "a?a?", "[*]*", "[?]?", "a*|b*"};
        for (String text : good) {
            pattern(text, true);
        }
    }

    private static void hardOnes() {
        Probe.sentence("Term PATTERN", "one of which must fit all of the part");
        fits(Probe.times("a*", 20), Probe.times("a", 40), true);
        fits(Probe.times("a*", 20), Probe.times("a", 39) + "b", false);
        fits(Probe.times("a?", 20), Probe.times("a", 20), true);
        fits(Probe.times("a?", 20), Probe.times("a", 21), false);
        fits(Probe.times("a?", 20), "", true);
        fits(Probe.times(".*", 19) + "b", Probe.times("a", 40), false);
        fits(Probe.times(".*", 19) + "b", Probe.times("a", 39) + "b", true);
        fits(Probe.times("a?", 13) + Probe.times("a", 13), Probe.times("a", 13), true);
        fits(Probe.times("a?", 13) + Probe.times("a", 13), Probe.times("a", 12), false);
        fits(Probe.times("a?", 13) + Probe.times("a", 13), Probe.times("a", 26), true);
        fits(Probe.times("a?", 13) + Probe.times("a", 13), Probe.times("a", 27), false);
    }
}
