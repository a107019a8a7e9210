/** The term REQUEST LINE. */
public final class RequestLineTest {
    public static void main(String[] args) {
        method();
        spacesAndH1();
        target();
        path();
        oneOrMoreParameters();
        namesAndValues();
        codesStandForCharacters();
        twoDigits();
        codes();
        atMostFourParameters();
        emptyNames();
        badAtItsTen();
        longAtItsFortyFirst();
        Probe.end();
    }

    private static void line(String line, boolean good) {
        if (good) {
            Probe.dueServed(line + "\r\n\r\n");
        } else {
            Probe.dueRefused(line + "\r\n", 400);
        }
    }

    private static void target(String target, boolean good) {
        line("G " + target + " H1", good);
    }

    private static boolean isCapital(char c) {
        return c >= 'A' && c <= 'Z';
    }

    private static void method() {
        Probe.sentence("Term REQUEST LINE", "a METHOD (1 .. 7 letters A .. Z)");
        for (int letters = 0; letters < 12; letters++) {
            line(Probe.times("M", letters) + " / H1", letters >= 1 && letters <= 7);
        }
        for (char c = 33; c <= 126; c++) {
            line(c + " / H1", isCapital(c));
            line("AB" + c + "Z / H1", isCapital(c));
            line("GETPUT" + c + " / H1", isCapital(c));
        }
        Probe p = new Probe();
        p.stub(0, 200, "{m}");
        Probe.due("the longest", p.ask("ABCDEFZ / H1\r\n\r\n"), "200 7\nABCDEFZ");
        Probe.due("the shortest", p.ask("Z / H1\r\n\r\n"), "200 1\nZ");
    }

    private static void spacesAndH1() {
        Probe.sentence("Term REQUEST LINE", "a space, a TARGET, a space, and H1");
        line("G / H1", true);
        String[] bad = {"", " ", "  ", "G", "G ", "G /", "G / ", "G /  ", "G / H", "G / H2", "G / H0", "G / h1", "G / H1 ", "G / H11", "G / HH1",
            "G /H1", "G/ H1", "G  / H1", " G / H1", "G /  H1", "G / / H1", "/ H1", " / H1", "G H1", "G  H1", "H1", " H1", "G / 1H",
            "G / H1 H1", "G_/ H1"};
        for (String text : bad) {
            line(text, false);
        }
        for (char c = 32; c <= 126; c++) {
            line("G / " + c + "1", c == 'H');
            line("G / H" + c, c == '1');
            line("G /" + c + "H1", c == ' ');
            line("G" + c + "/ H1", c == ' ');
        }
    }

    private static void target() {
        Probe.sentence("Term REQUEST LINE", "The target begins with / and has no space");
        String[] good = {"/", "//", "/a", "/a/b", "/H1", "/#!~\"", "/a=b&c", "/:@[]`{}|"};
        for (String target : good) {
            target(target, true);
        }
        String[] bad = {"", "a", "a/", "?/", "?a", "%2F", "%2f/", "/ ", " /", "/ /", "/a b", "/?a b", "/?a= b"};
        for (String target : bad) {
            target(target, false);
        }
        for (char c = 32; c <= 126; c++) {
            target(c + "/", c == '/');
        }
    }

    private static void path() {
        Probe.sentence("Term REQUEST LINE", "its PATH is what is before the first ?, or all of it");
        Probe p = new Probe();
        p.stub(0, 200, "{p}");
        Probe.due("all of it", p.ask("G /a/b=c&d H1\r\n\r\n"), "200 8\n/a/b=c&d");
        Probe.due("before the first", p.ask("G /a?b?c H1\r\n\r\n"), "200 2\n/a");
        Probe.due("the shortest", p.ask("G /?b=/?/ H1\r\n\r\n"), "200 1\n/");
        Probe.due("the shortest of all", p.ask("G / H1\r\n\r\n"), "200 1\n/");
        Probe.due("a ? told by its code", p.ask("G /a%3Fb?c H1\r\n\r\n"), "200 4\n/a?b");
        String[] withoutMark = {"/&", "/&&", "/=", "/a&=b&", "/a&b&c&d&e&f"};
        for (String target : withoutMark) {
            target(target, true);
            Probe.due("all of " + target, p.ask("G " + target + " H1\r\n\r\n"), "200 " + target.length() + "\n" + target);
            Probe.due("no parameter in " + target, p.counted(Probe.PARAMETER, Probe.PRESENT, target), 0);
        }
        Probe.due("no parameter", p.counted(Probe.PARAMETER, Probe.PRESENT, "/"), 0);
        Probe.due("the longest", p.ask("G /" + Probe.times("p", 34) + " H1\r\n\r\n"), "200 35\n/" + Probe.times("p", 34));
    }

    private static void oneOrMoreParameters() {
        Probe.sentence("Term REQUEST LINE", "behind that ? are one or more PARAMETERS with one & between each two");
        String[] good = {"/", "/?a", "/?a&b", "/?a&b&c", "/?a=&b=", "/?a&a&a", "/??", "/?a?", "/?/"};
        for (String target : good) {
            target(target, true);
        }
        String[] bad = {"/?", "/?&", "/?&&", "/?a&", "/?&a", "/?a&&b", "/?a=1&", "/?a=1&&b=2", "/a?"};
        for (String target : bad) {
            target(target, false);
        }
    }

    private static void value(String parameters, String name, String value) {
        Probe p = new Probe();
        p.send(0, "G /?" + parameters + " H1\r\n\r\n");
        String what = name + " is " + value + " in " + parameters;
        Probe.due(what, p.counted(Probe.PARAMETER, Probe.EQUAL, name + " " + value), 1);
    }

    private static void namesAndValues() {
        Probe.sentence("Term REQUEST LINE", "each a name, or a name, = and a value (from its first = on; without =, the value is empty)");
        value("a", "a", "");
        value("a=", "a", "");
        value("a=b", "a", "b");
        value("a=b=c", "a", "b=c");
        value("a==", "a", "=");
        value("a=?", "a", "?");
        value("a=/?=", "a", "/?=");
        value("a?=1", "a?", "1");
        value("?=1", "?", "1");
        value("x&a=1&y", "a", "1");
        value("x=2&a&y=3", "a", "");
        value("w&x&y&a=4", "a", "4");
        value("a=1&a=2", "a", "1");
        value("A=1&a=2", "a", "2");
        value("a=" + Probe.times("v", 30), "a", Probe.times("v", 30));
        value(Probe.times("n", 32), Probe.times("n", 32), "");
    }

    private static void codesStandForCharacters() {
        Probe.sentence("Term REQUEST LINE", "In path, names and values % and two digits 0 .. 9, a .. f, A .. F stand for the character of that code");
        for (int code = 32; code <= 126; code++) {
            String[] ways = {String.format("%%%02x", code), String.format("%%%02X", code)};
            for (String way : ways) {
                Probe p = new Probe();
                p.stub(0, 200, "{p}{qa}");
                String want = "/<" + (char) code + ">" + "(" + (char) code + ")";
                Probe.due(way, p.ask("G /<" + way + ">?a=(" + way + ") H1\r\n\r\n"), "200 7\n" + want);
                p.server.open(0);
                p.send(0, "G /?" + way + "n=1 H1\r\n\r\n");
                String name = (char) code + "n";
                Probe.due(way + " in a name", p.counted(Probe.PARAMETER, Probe.PRESENT, name), code == 32 ? -9 : 1);
            }
        }
        value("%61%62=%63", "ab", "c");
        value("%3D=%3d&%26=%26", "=", "=");
        value("a&%26=%26%25", "&", "&%");
        value("a=%2541", "a", "%41");
        value("a%3db=c", "a=b", "c");
    }

    private static void dueBadInAllPlaces(String code) {
        target("/" + code, false);
        target("/" + code + "?a", false);
        target("/?" + code, false);
        target("/?a" + code + "=1", false);
        target("/?a=" + code, false);
        target("/?a=" + code + "&b", false);
        target("/?a&b&c&d=" + code, false);
    }

    private static void dueGoodInAllPlaces(String code) {
        target("/" + code, true);
        target("/?" + code, true);
        target("/?" + code + "=1", true);
        target("/?a=" + code, true);
        target("/?a=" + code + "&b&c&d=" + code, true);
    }

    private static boolean isDigit(char c) {
        return c >= '0' && c <= '9' || c >= 'a' && c <= 'f' || c >= 'A' && c <= 'F';
    }

    private static void twoDigits() {
        Probe.sentence("Term REQUEST LINE", "a % is not followed by two such digits");
        for (char c = 33; c <= 126; c++) {
            target("/%2" + c, isDigit(c));
            target("/%3" + c + "4", isDigit(c));
            target("/?a=%4" + c + "&b", isDigit(c));
            target("/%" + c + "0", c >= '2' && c <= '7');
        }
        String[] bad = {"%", "%4", "%%41", "%4%41", "%%", "%G1", "%g1", "%1G", "%2g", "%4/", "%4:", "%4@", "%4`", "%-1", "%+1"};
        for (String code : bad) {
            dueBadInAllPlaces(code);
        }
        target("/%4?1=2", false);
        target("/?%3&d=1", false);
        target("/?a%3=d", false);
        target("/?a=%4&1", false);
    }

    private static void codes() {
        Probe.sentence("Term REQUEST LINE", "a code is not 32 .. 126");
        for (int code = 0; code < 256; code++) {
            target(String.format("/%%%02x", code), code >= 32 && code <= 126);
            target(String.format("/?a=%%%02X", code), code >= 32 && code <= 126);
        }
        String[] bad = {"%00", "%0d", "%0A", "%1f", "%1F", "%7f", "%7F", "%80", "%a0", "%ff", "%FF"};
        for (String code : bad) {
            dueBadInAllPlaces(code);
        }
        String[] good = {"%20", "%7e", "%7E"};
        for (String code : good) {
            dueGoodInAllPlaces(code);
        }
    }

    private static void atMostFourParameters() {
        Probe.sentence("Term REQUEST LINE", "there are more than 4 parameters");
        target("/?a&b&c&d", true);
        target("/?a&b&c&d&e", false);
        target("/?a=1&b=2&c=3&d=4", true);
        target("/?a=1&b=2&c=3&d=4&e=5", false);
        target("/?a&a&a&a", true);
        target("/?a&a&a&a&a", false);
        target("/?a&b&c&d&e&f&g&h&i&j", false);
        value("a&b&c&d=last", "d", "last");
    }

    private static void emptyNames() {
        Probe.sentence("Term REQUEST LINE", "or a name is empty");
        String[] bad = {"/?=", "/?=a", "/?==", "/?a&=", "/?a&=b", "/?=b&a", "/?a&b&c&=", "/?a&b&c&", "/?a&&b"};
        for (String target : bad) {
            target(target, false);
        }
        target("/?a=", true);
        target("/?%20=", true);
        target("/?%3d", true);
    }

    private static void badAtItsTen() {
        Probe.sentence("Term REQUEST LINE", "It is BAD, at its 10, if it is not so");
        String[] hopeless = {"=", "get / H1", "ABCDEFGHIJK", " / H1", "G /%zz", "G ///  ", "G / H1H1H1H1", "G /?&&&&&&&& H1",
            Probe.times(" ", 40), Probe.times("G", 39)};
        for (String text : hopeless) {
            Probe.dueOpen(text);
            Probe.dueOpen(text + "\r");
            line(text, false);
        }
    }

    private static void longAtItsFortyFirst() {
        Probe.sentence("Term REQUEST LINE", "LONG, at its 41st byte, if that is not the 13");
        for (int length = 30; length <= 40; length++) {
            line("G /" + Probe.times("a", length - 6) + " H1", true);
            line(Probe.times("a", length), false);
        }
        String[] longer = {"G /" + Probe.times("a", 35) + " H1", "G /" + Probe.times("a", 34) + " H11", Probe.times("g", 41),
            Probe.times(" ", 41), "G / H1" + Probe.times(" ", 35), "G /?" + Probe.times("&", 37)};
        for (String text : longer) {
            Probe.dueRefused(text, 414);
        }
        Probe.dueOpen(Probe.times("g", 40));
        Probe.dueOpen(Probe.times("g", 40) + "\r");
        for (char c = 32; c <= 126; c++) {
            Probe.dueRefused("G /" + Probe.times("a", 34) + " H1" + c, 414);
        }
    }
}
