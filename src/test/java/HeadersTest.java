/** The term HEADERS. */
public final class HeadersTest {
    public static void main(String[] args) {
        names();
        colons();
        values();
        badAtItsTen();
        bigAtItsThirtyThird();
        theFifth();
        theEmptyLine();
        smallAndCapitalLetters();
        digitsOfLen();
        atMostForty();
        chunkedYes();
        onlyOneOfThem();
        thisIsLookedAtFirst();
        Probe.end();
    }

    private static void header(String line, boolean good) {
        if (good) {
            Probe.dueServed(Probe.GET + line + "\r\n\r\n");
        } else {
            Probe.dueRefused(Probe.GET + line + "\r\n", 400);
        }
    }

    private static boolean mayBeInName(char c) {
        return c >= 'A' && c <= 'Z' || c >= 'a' && c <= 'z' || c == '-';
    }

    private static void names() {
        Probe.sentence("Term HEADERS", "a NAME (one or more letters and -)");
        header(":", false);
        header(":v", false);
        header("::", false);
        header("n:", true);
        header(Probe.times("n", 31) + ":", true);
        header(Probe.times("-", 31) + ":", true);
        for (char c = 32; c <= 126; c++) {
            header(c + ":v", mayBeInName(c));
            if (c != ':') {
                header("n" + c + ":v", mayBeInName(c));
                header("n" + c + "n:v", mayBeInName(c));
                header(c + "n:v", mayBeInName(c));
            }
        }
        String[] neither = {"len-:a", "lens:x", "le:x", "-len:x", "chunk:no", "chunked-:no"};
        for (String line : neither) {
            header(line, true);
        }
    }

    private static void colons() {
        Probe.sentence("Term HEADERS", "a :, and a VALUE");
        String[] bad = {"x", "-", "x y", " ", "   ", "x;y", " x:y", "x :y", Probe.times("n", 32)};
        for (String line : bad) {
            header(line, false);
        }
        String[] good = {"x:", "x::", "x:y:z", "x: :", "x:~!", "x:   "};
        for (String line : good) {
            header(line, true);
        }
    }

    private static void value(String line, String want) {
        Probe p = new Probe();
        p.stub(0, 200, "{hx}");
        Probe.due("the value of " + line, p.ask(Probe.GET + line + "\r\n\r\n"), "200 " + want.length() + "\n" + want);
    }

    private static void values() {
        Probe.sentence("Term HEADERS", "a VALUE, of which spaces at both ends do not count");
        value("x:", "");
        value("x: ", "");
        value("x:  ", "");
        value("x:" + Probe.times(" ", 30), "");
        value("x:v", "v");
        value("x: v", "v");
        value("x:v ", "v");
        value("x:   v   ", "v");
        value("x:a b", "a b");
        value("x:  a  b  ", "a  b");
        value("x::", ":");
        value("x: :v: ", ":v:");
        value("x:%41", "%41");
        value("x:" + Probe.times("v", 30), Probe.times("v", 30));
    }

    private static void badAtItsTen() {
        Probe.sentence("Term HEADERS", "It is BAD, at its 10, if it is not so");
        String[] hopeless = {"1", " ", ":", "x y:z", "_:v", Probe.times(" ", 32), Probe.times(":", 31)};
        for (String line : hopeless) {
            Probe.dueOpen(Probe.GET + line);
            Probe.dueOpen(Probe.GET + line + "\r");
            header(line, false);
        }
        Probe.dueRefused(Probe.GET + "a:1\r\nb:2\r\nc:3\r\nd\r\n", 400);
    }

    private static void bigAtItsThirtyThird() {
        Probe.sentence("Term HEADERS", "BIG, at its 33rd byte, if that is not the 13");
        for (int length = 25; length <= 32; length++) {
            header("x:" + Probe.times("a", length - 2), true);
            header(Probe.times("?", length), false);
        }
        String[] bigger = {"x:" + Probe.times("a", 31), "x:" + Probe.times(" ", 31), Probe.times("?", 33), Probe.times("n", 33),
            "len:" + Probe.times("0", 29), "len:1" + Probe.times(" ", 28)};
        for (String line : bigger) {
            Probe.dueRefused(Probe.GET + line, 431);
            Probe.dueRefused(Probe.GET + "a:1\r\nb:2\r\nc:3\r\n" + line, 431);
        }
        for (char c = 32; c <= 126; c++) {
            Probe.dueRefused(Probe.GET + "x:" + Probe.times("a", 30) + c, 431);
        }
    }

    private static void theFifth() {
        Probe.sentence("Term HEADERS", "and, whatever it is, the fifth one at its 10");
        String four = Probe.GET + "a:1\r\nb:2\r\nc:3\r\nd:4\r\n";
        String[] fifth = {"e:5", "e:", "a:1", "e", ":", " ", "len:x", "len:99", "len:1", "chunked:no", "chunked:yes", "conn:close",
            "x:" + Probe.times("a", 30)};
        for (String line : fifth) {
            Probe.dueOpen(four + line + "\r");
            Probe.dueRefused(four + line + "\r\n", 431);
        }
        Probe.dueRefused(four + Probe.times("e", 33), 431);
        Probe.dueRefused(Probe.GET + "len:1\r\nb:2\r\nc:3\r\nd:4\r\nlen:1\r\n", 431);
        Probe.dueRefused(Probe.GET + "a:1\r\na:1\r\na:1\r\na:1\r\na:1\r\n", 431);
        Probe p = new Probe();
        p.stub(0, 200, "{ha}{hb}{hc}{hd}");
        Probe.due("all four are read", p.ask(four + "\r\n"), "200 4\n1234");
        Probe.due("as many again", p.answer(0, four + "\r\n"), "200 4\n1234");
    }

    private static void theEmptyLine() {
        Probe.sentence("Term HEADERS", "An empty line ends them.");
        String lines = Probe.GET;
        for (int headers = 0; headers <= 4; headers++) {
            Probe.dueServed(lines + "\r\n");
            lines += "x:" + headers + "\r\n";
        }
        Probe.dueRefused(Probe.GET + " \r\n", 400);
        Probe.dueOpen(Probe.GET + "len:1\r\n\r\n");
    }

    private static void smallAndCapitalLetters() {
        Probe.sentence("Term HEADERS", "Names are the same whether their letters are small or not.");
        String alphabet = "ABCDEFGHIJKLMNOPQRSTUVWXYZ";
        for (char c : alphabet.toCharArray()) {
            Probe p = new Probe();
            p.send(0, Probe.GET + c + ":1\r\n\r\n" + Probe.GET + (char) (c + 32) + ":1\r\n\r\n");
            Probe.due("capital " + c, p.counted(Probe.HEADER, Probe.PRESENT, "" + c), 2);
            Probe.due("small " + c, p.counted(Probe.HEADER, Probe.PRESENT, "" + (char) (c + 32)), 2);
            Probe.due("equal " + c, p.counted(Probe.HEADER, Probe.EQUAL, c + " 1"), 2);
        }
        Probe p = new Probe();
        p.stub(0, 200, "{hx-Y}");
        Probe.due("in a template", p.ask(Probe.GET + "X-y:v\r\n\r\n"), "200 1\nv");
        Probe.due("the first of both", p.ask(Probe.GET + "X-Y:1\r\nx-y:2\r\n\r\n"), "200 1\n1");
        Probe.dueRefused(Probe.GET + "LeN:x\r\n", 400);
        Probe.dueRefused(Probe.GET + "LEN:41\r\n", 413);
        Probe.dueRefused(Probe.GET + "CHUNKED:no\r\n", 400);
        Probe.dueOpen(Probe.GET + "lEn:1\r\n\r\n");
        Probe.dueOpen(Probe.GET + "Chunked:yes\r\n\r\n");
        Probe.due("the value is not", p.ask(Probe.GET + "x-y:aBc\r\n\r\n"), "200 3\naBc");
    }

    private static void digitsOfLen() {
        Probe.sentence("Term HEADERS", "A header len is BAD, at its 10, if its value is not 1 .. 3 digits");
        String[] good = {"0", "00", "000", " 0", "0 ", "  000  "};
        for (String value : good) {
            header("len:" + value, true);
        }
        String[] bad = {"", " ", "0000", "0001", "0040", "1000", "00000000000", "1 1", "0 0", "-1", "+1", "-0", "1x", "x1", "0x1", "1.", "1.0",
            "99999999999999", "4294967296"};
        for (String value : bad) {
            header("len:" + value, false);
            header("x:1\r\nlen: " + value, false);
        }
        for (char c = 33; c <= 126; c++) {
            boolean digit = c >= '0' && c <= '9';
            Probe.due("len:" + c, Probe.refusal(Probe.GET + "len:" + c + "\r\n"), digit ? "open" : "400@15");
            Probe.due("len:0" + c, Probe.refusal(Probe.GET + "len:0" + c + "\r\n"), digit ? "open" : "400@16");
            Probe.due("len:" + c + "00", Probe.refusal(Probe.GET + "len:" + c + "00\r\n"), digit ? c == '0' ? "open" : "413@17" : "400@17");
        }
    }

    private static void atMostForty() {
        Probe.sentence("Term HEADERS", "LARGE, if that is more than 40");
        for (int length = 0; length <= 999; length++) {
            String[] ways = {"" + length, String.format("%03d", length)};
            for (String way : ways) {
                String line = Probe.GET + "len: " + way + " \r\n";
                if (length <= 40) {
                    Probe.dueOpen(line);
                } else {
                    Probe.due("len " + way, Probe.refusal(line), "413@" + line.length());
                }
            }
        }
        Probe.dueRefused(Probe.GET + "len:41\r\n", 413);
        Probe.dueRefused(Probe.GET + "x:1\r\ny:2\r\nz:3\r\nlen:041\r\n", 413);
        Probe.dueServed(Probe.GET + "len:40\r\n\r\n" + Probe.times("b", 40));
    }

    private static void chunkedYes() {
        Probe.sentence("Term HEADERS", "chunked is BAD, if its value is not yes");
        String[] bad = {"", " ", "no", "Yes", "YES", "yeS", "yes yes", "y es", "ye", "yess", "es", "1", "true", "yes,"};
        for (String value : bad) {
            header("chunked:" + value, false);
        }
        String[] good = {"yes", " yes", "yes ", "   yes   "};
        for (String value : good) {
            Probe.dueServed(Probe.GET + "chunked:" + value + "\r\n\r\n0\r\n\r\n");
        }
    }

    private static void onlyOneOfThem() {
        Probe.sentence("Term HEADERS", "each of the two is BAD if there was a len or chunked before");
        String[] first = {"len:0", "len:1", "Len:40", "chunked:yes", "CHUNKED: yes"};
        String[] second = {"len:0", "len:1", "LEN:1", "chunked:yes", "Chunked:yes"};
        for (String one : first) {
            for (String other : second) {
                Probe.dueRefused(Probe.GET + one + "\r\n" + other + "\r\n", 400);
                Probe.dueRefused(Probe.GET + one + "\r\nx:\r\ny:\r\n" + other + "\r\n", 400);
            }
        }
        Probe p = new Probe();
        p.send(0, Probe.GET + "len:0\r\n\r\n" + Probe.GET + "chunked:yes\r\n\r\n0\r\n\r\n" + Probe.GET + "len:1\r\n\r\nb" + Probe.REQUEST);
        Probe.due("one in each request", p.server.served(), 4);
    }

    private static void thisIsLookedAtFirst() {
        Probe.sentence("Term HEADERS", "(this is looked at first)");
        String[] first = {"len:1", "chunked:yes"};
        String[] second = {"len:41", "len:99", "len:100", "len:999"};
        for (String one : first) {
            for (String other : second) {
                Probe.dueRefused(Probe.GET + one + "\r\n" + other + "\r\n", 400);
            }
        }
        Probe.dueRefused(Probe.GET + "len:41\r\n", 413);
    }
}
