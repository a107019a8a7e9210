/** The term TEMPLATE, by promises 2, 5, 6 and 9. */
public final class TemplateTest {
    private static final String REQUEST = "PUT /a%7bm%7d?k=v&k=w&K=%7bp%7d&e H1\r\nX-y: h v\r\nlen:3\r\n\r\n{n}";

    public static void main(String[] args) {
        whatItStandsFor();
        otherBraces();
        numbers();
        onlySixty();
        Probe.end();
    }

    private static void filled(String template, String want) {
        Probe p = new Probe();
        p.stub(0, 200, template);
        Probe.due("template " + template, p.ask(REQUEST), "200 " + want.length() + "\n" + want);
    }

    private static void whatItStandsFor() {
        filled("", "");
        filled("abc", "abc");
        filled("{m}", "PUT");
        filled("{p}", "/a{m}");
        filled("{b}", "{n}");
        filled("{n}", "1");
        filled("{qk}", "v");
        filled("{qK}", "{p}");
        filled("{qe}", "");
        filled("{qnone}", "");
        filled("{hx-y}", "h v");
        filled("{hX-Y}", "h v");
        filled("{hlen}", "3");
        filled("{hno}", "");
        filled("a{m}b{m}{n}c", "aPUTbPUT1c");
        filled("{q {}", "");
        filled("{q{m}", "");
        filled("{h{m}}", "}");
        filled("{qk }x", "x");
        filled("{hk}", "");
        filled("{qlen}", "");
        Probe p = new Probe();
        p.stub(0, 200, "{qx}{hx}");
        Probe.due("a parameter and a header of one name", p.ask("G /?x=1 H1\r\nx:2\r\n\r\n"), "200 2\n12");
    }

    private static void otherBraces() {
        String[] asTheyAre = {"{", "}", "{}", "{q}", "{h}", "{m", "{x}", "{M}", "{mm}", "{n }", "{qk", "{hx-y", "{ m}", "{q", "{{",
            "}{", "{p{", "{Qk}", "{0}", "a{b"};
        for (String template : asTheyAre) {
            filled(template, template);
        }
        filled("{{m}", "{PUT");
        filled("{{m}}", "{PUT}");
        filled("{m{m}", "{mPUT");
        filled("{q}{m}", "{q}PUT");
        filled("{q}}", "{q}}");
        filled("{m}{", "PUT{");
        filled("{x{qk}", "{xv");
    }

    private static void numbers() {
        Probe p = new Probe();
        p.match(Probe.METHOD, Probe.EQUAL, "A");
        p.stub(0, 200, "{n}");
        p.ask("B / H1\r\n\r\n");
        p.ask("bad\r\n");
        Probe.due("404 counts, 400 does not", p.ask("A / H1\r\n\r\n"), "200 1\n2");
        p.server.reset();
        for (int i = 3; i < 12; i++) {
            p.ask("A / H1\r\n\r\n");
        }
        Probe.due("goes on behind reset", p.ask("A / H1\r\n\r\n"), "200 2\n12");
    }

    private static void onlySixty() {
        String body = Probe.times("0123456789", 4);
        String request = Probe.GET + "len:40\r\n\r\n" + body;
        String[] templates = {"{b}{b}", "{b}{b}{b}{b}{b}{b}{b}{b}{b}{b}{b}{b}{b}", "{b}0123456789012345678{b}", "{b}01234567890123456789{m}",
            "{b}012345678901234567890123456789", "{b}0123456789012345678"};
        int[] lengths = {60, 60, 60, 60, 60, 59};
        for (int i = 0; i < templates.length; i++) {
            Probe p = new Probe();
            p.stub(0, 200, templates[i]);
            String want = templates[i].replace("{b}", body).replace("{m}", "G");
            want = want.substring(0, Math.min(60, want.length()));
            Probe.due("template " + templates[i], p.ask(request), "200 " + lengths[i] + "\n" + want);
        }
    }
}
