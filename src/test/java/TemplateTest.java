/** The term TEMPLATE. */
public final class TemplateTest {
    private static final String REQUEST = "PUT /a%7bm%7d?k=v&k=w&K=%7bp%7d&e H1\r\nX-y: h v\r\nlen:3\r\n\r\n{n}";

    public static void main(String[] args) {
        emptyAndFull();
        methodPathAndBody();
        theNumber();
        parametersAndHeaders();
        nothingIfThereIsNone();
        theName();
        otherBraces();
        whatIsFilledInStays();
        onlySixty();
        cutInTheMiddle();
        Probe.end();
    }

    private static void filled(String template, String want) {
        Probe p = new Probe();
        p.stub(0, 200, template);
        Probe.due("template " + template, p.ask(REQUEST), "200 " + want.length() + "\n" + want);
    }

    private static void emptyAndFull() {
        Probe.sentence("Term TEMPLATE", "the response has its status, and as body its template");
        filled("", "");
        filled("a", "a");
        filled("a b!~", "a b!~");
        filled(Probe.times("t", 40), Probe.times("t", 40));
    }

    private static void methodPathAndBody() {
        Probe.sentence("Term TEMPLATE", "in which {m}, {p}, {b} stand for the method, path and body");
        filled("{m}", "PUT");
        filled("{p}", "/a{m}");
        filled("{b}", "{n}");
        filled("{m}{p}{b}{m}", "PUT/a{m}{n}PUT");
        filled("a{m}b", "aPUTb");
        filled(Probe.times("x", 37) + "{m}", Probe.times("x", 37) + "PUT");
        Probe p = new Probe();
        p.stub(0, 200, "<{b}>");
        Probe.due("without a body", p.ask(Probe.REQUEST), "200 2\n<>");
        Probe.due("any bytes", p.ask(Probe.GET + "len:2\r\n\r\n\0\u00ff"), "200 4\n<\0\u00ff>");
    }

    private static void theNumber() {
        Probe.sentence("Term TEMPLATE", "{n} for the number of requests that were served so far (with this one)");
        Probe p = new Probe();
        p.match(Probe.METHOD, Probe.EQUAL, "A");
        p.stub(0, 200, "{n}");
        Probe.due("the first", p.ask("A / H1\r\n\r\n"), "200 1\n1");
        p.ask("B / H1\r\n\r\n");
        p.ask("bad\r\n");
        Probe.due("404 counts, 400 does not", p.ask("A / H1\r\n\r\n"), "200 1\n3");
        p.send(2, "A / H1\r\n\r\n");
        Probe.due("of all connections", p.response(2), "200 1\n4");
        p.server.reset();
        for (int i = 5; i < 9; i++) {
            p.send(1, "A / H1\r\n\r\n");
        }
        Probe.due("the ninth", p.ask("A / H1\r\n\r\n"), "200 1\n9");
        Probe.due("the tenth", p.ask("A / H1\r\n\r\n"), "200 2\n10");
        for (int i = 11; i < 99; i++) {
            p.send(1, "A / H1\r\n\r\n");
        }
        Probe.due("the 99th", p.ask("A / H1\r\n\r\n"), "200 2\n99");
        Probe.due("the 100th", p.ask("A / H1\r\n\r\n"), "200 3\n100");
    }

    private static void parametersAndHeaders() {
        Probe.sentence("Term TEMPLATE", "{q and a name and }, {h and a name and } for the value of that parameter or header");
        filled("{qk}", "v");
        filled("{qK}", "{p}");
        filled("{qe}", "");
        filled("{hx-y}", "h v");
        filled("{hX-Y}", "h v");
        filled("{hlen}", "3");
        filled("{qk}{hLEN}{qk}", "v3v");
        Probe p = new Probe();
        p.stub(0, 200, "{qx}{hx}{qm}{q }{q{}");
        Probe.due("of one name", p.ask("G /?x=1 H1\r\nx:2\r\n\r\n"), "200 2\n12");
        Probe.due("of strange names", p.ask("G /?m=3&%20=4&%7b=5 H1\r\n\r\n"), "200 3\n345");
        Probe q = new Probe();
        q.stub(0, 200, "{q" + Probe.times("n", 30) + "}");
        Probe.due("of a long name", q.ask("G /?" + Probe.times("n", 30) + "=1 H1\r\n\r\n"), "200 1\n1");
    }

    private static void nothingIfThereIsNone() {
        Probe.sentence("Term TEMPLATE", "(nothing if there is none");
        filled("{qnone}", "");
        filled("{qE}", "");
        filled("{hno}", "");
        filled("{hk}", "");
        filled("{qlen}", "");
        filled("<{qx}{hx}>", "<>");
        filled("{q" + Probe.times("n", 37) + "}", "");
    }

    private static void theName() {
        Probe.sentence("Term TEMPLATE", "the name is one or more characters other than })");
        filled("{q}", "{q}");
        filled("{h}", "{h}");
        filled("{q}}", "{q}}");
        filled("{h}}", "{h}}");
        filled("{q}k}", "{q}k}");
        filled("{qk}}", "v}");
        filled("{q {}", "");
        filled("{q{m}", "");
        filled("{h{m}}", "}");
        filled("{qk }x", "x");
        filled("{q}{m}", "{q}PUT");
        Probe p = new Probe();
        p.stub(0, 200, "{q{m}");
        Probe.due("of the name {m", p.ask("G /?%7bm=1 H1\r\n\r\n"), "200 1\n1");
    }

    private static void otherBraces() {
        Probe.sentence("Term TEMPLATE", "any other { stands for itself");
        String[] asTheyAre = {"{", "}", "{}", "{m", "{p", "{b", "{n", "{x}", "{M}", "{mm}", "{n }", "{ n}", "{qk", "{hx-y", "{ m}", "{q", "{h", "{{", "}{",
            "{p{", "{Qk}", "{Hx-y}", "{0}", "a{b", "{m }", "{nm}", "{a}{c}{d}{k}{l}{o}", Probe.times("{", 40)};
        for (String template : asTheyAre) {
            filled(template, template);
        }
        for (char c = 32; c <= 126; c++) {
            if ("mpbn".indexOf(c) < 0) {
                filled("{" + c + "}", "{" + c + "}");
            }
        }
        filled("{{m}", "{PUT");
        filled("{{m}}", "{PUT}");
        filled("{m{m}", "{mPUT");
        filled("{m}{", "PUT{");
        filled("{x{qk}", "{xv");
    }

    private static void whatIsFilledInStays() {
        Probe.sentence("Term TEMPLATE", "{p}, {b} stand for the method, path and body");
        filled("{p}", "/a{m}");
        filled("{b}{n}", "{n}1");
        filled("{qK}", "{p}");
    }

    private static String body(int length) {
        return Probe.times("0123456789", 4).substring(0, length);
    }

    private static void onlySixty() {
        Probe.sentence("Term TEMPLATE", "but only the first 60 characters");
        for (int behind = 0; behind <= 37; behind++) {
            Probe p = new Probe();
            p.stub(0, 200, "{b}" + Probe.times("t", behind));
            String want = body(40) + Probe.times("t", Math.min(20, behind));
            String response = p.ask(Probe.GET + "len:40\r\n\r\n" + body(40));
            Probe.due((40 + behind) + " characters", response, "200 " + want.length() + "\n" + want);
        }
    }

    private static void cutInTheMiddle() {
        Probe.sentence("Term TEMPLATE", "but only the first 60 characters");
        String[] templates = {"{b}{b}", "{b}{b}{b}{b}{b}{b}{b}{b}{b}{b}{b}{b}{b}", "{m}{b}{b}", "{b}0123456789012345678{b}",
            "{b}01234567890123456789{m}", "{b}0123456789012345678{m}", "{b}012345678901234567{m}{m}{m}", "{b}{p}{p}{p}{p}{p}{p}{p}{p}{p}{p}{p}{b}"};
        for (int length = 20; length <= 40; length++) {
            for (String template : templates) {
                Probe p = new Probe();
                p.stub(0, 200, template);
                String want = template.replace("{b}", body(length)).replace("{m}", "G").replace("{p}", "/");
                want = want.substring(0, Math.min(60, want.length()));
                String response = p.ask(Probe.GET + "len:" + length + "\r\n\r\n" + body(length));
                Probe.due(template + " with " + length, response, "200 " + want.length() + "\n" + want);
            }
        }
    }
}
