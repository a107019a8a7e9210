/** Promise 2 and the terms LINE and REQUEST LINE. */
public final class RequestLineTest {
    public static void main(String[] args) {
        badBytes();
        longLines();
        goodLines();
        badLines();
        whatIsRead();
        Probe.end();
    }

    private static void badBytes() {
        int[] bad = {0, 9, 10, 31, 127, 128, 200, 255};
        for (int b : bad) {
            Probe.dueRefused("G /" + (char) b, 400);
            Probe.dueRefused("" + (char) b, 400);
            Probe.dueRefused("G / H1\r\nx" + (char) b, 400);
            Probe.dueRefused("G /" + Probe.times("a", 37) + (char) b, 400);
            Probe.dueRefused(Probe.GET + "x:" + Probe.times("a", 30) + (char) b, 400);
        }
        String[] notTen = {"a", "\r", " ", "\0"};
        for (String behind : notTen) {
            Probe.dueRefused("G / H1\r" + behind, 400);
            Probe.dueRefused("\r" + behind, 400);
            Probe.dueRefused("G / H1\r\n\r" + behind, 400);
            Probe.dueRefused("G / H1\r\nx:y\r" + behind, 400);
            Probe.dueRefused("G /" + Probe.times("a", 33) + " H1\r" + behind, 400);
            Probe.dueRefused("G /" + Probe.times("a", 34) + " H1\r" + behind, 400);
            Probe.dueRefused(Probe.GET + "x:" + Probe.times("a", 29) + "\r" + behind, 400);
            Probe.dueRefused(Probe.GET + "x:" + Probe.times("a", 30) + "\r" + behind, 400);
        }
    }

    private static void longLines() {
        Probe.dueServed("G /" + Probe.times("a", 34) + " H1\r\n\r\n");
        Probe.dueServed("G /" + Probe.times("a", 33) + " H1\r\n\r\n");
        Probe.dueRefused("G /" + Probe.times("a", 35) + " H1", 414);
        Probe.dueRefused(Probe.times("g", 41), 414);
        Probe.dueRefused(Probe.times(" ", 41), 414);
        Probe.dueRefused(Probe.times("g", 40) + "\r\n", 400);
    }

    private static void goodLines() {
        String[] lines = {"G / H1", "ABCDEFG / H1", "AZ /a/b H1", "G // H1"};
        for (String line : lines) {
            Probe.dueServed(line + "\r\n\r\n");
        }
        String[] targets = {"/?a", "/?a=", "/?a=b", "/?a=b=c", "/?a==", "/?a?b", "/?a&b&c&d", "/?a=1&a=2", "/%20",
            "/%7e", "/%7E", "/%2F%2f", "/?%41=%42", "/?a=?&b=/", "/H1", "/#!~\"", "/?a=&b", "/x?%3d=%26", "/a=b&c"};
        for (String target : targets) {
            Probe.dueServed("G " + target + " H1\r\n\r\n");
        }
    }

    private static void badLines() {
        String[] lines = {"", " ", "G", "G ", "G /", "G / ", "G / H", "G / H2", "G / h1", "G / H1 ", "G / H11", "G /H1",
            "G  / H1", " G / H1", "G /  H1", "G / / H1", "/ H1", " / H1", "g / H1", "Ge / H1", "G1 / H1", "G- / H1",
            "ABCDEFGH / H1", "[ / H1", "@ / H1", "G a H1", "G a/ H1", "G H1", "G  H1", "G ? H1", "G %2F H1", "H1",
            "G ?/ H1"};
        for (String line : lines) {
            Probe.dueRefused(line + "\r\n", 400);
        }
        String[] targets = {"/?", "/?&", "/?a&", "/?&a", "/?a&&b", "/?=", "/?=a", "/?a&=", "/?a&b&c&d&e", "/?a&b&c&d&",
            "/%", "/%4", "/%g1", "/%1g", "/%4?1", "/%G0", "/%1f", "/%7f", "/%00", "/%80", "/%FF", "/%%41", "/%4%41",
            "/?a%", "/?a=%2", "/?a=%1F", "/?%7F", "/?a&b=%zz", "/?a%3", "/?%3&d=1", "/%:0", "/%@0", "/%`0", "/%/0", "/%1G",
            "/%2G", "/%2g", "/%2:", "/%2@", "/%2/", "/%2`", "/%G", "/?a=%4G"};
        for (String target : targets) {
            Probe.dueRefused("G " + target + " H1\r\n", 400);
        }
    }

    private static void whatIsRead() {
        Probe p = new Probe();
        p.stub(0, 200, "{m}|{p}|{qa}|{qb}|{qA}|{q=}|{q&}");
        Probe.due("plain", p.ask("PUT /x/y H1\r\n\r\n"), "200 13\nPUT|/x/y|||||");
        Probe.due("values", p.ask("A /?a=1&b=2&A=3 H1\r\n\r\n"), "200 11\nA|/|1|2|3||");
        Probe.due("the first of a name", p.ask("A /?a=1&a=2&b H1\r\n\r\n"), "200 9\nA|/|1||||");
        Probe.due("from the first =", p.ask("A /?a=1=2&b==&A=? H1\r\n\r\n"), "200 13\nA|/|1=2|=|?||");
        Probe.due("decoded path", p.ask("A /%41%3f%3Fb%25%2525?a H1\r\n\r\n"), "200 16\nA|/A??b%%25|||||");
        Probe.due("decoded values", p.ask("A /?a=%26%3d&b=%20x%7E H1\r\n\r\n"), "200 13\nA|/|&=| x~|||");
        Probe.due("decoded names", p.ask("A /?%61=x&%3D=y&%26=z H1\r\n\r\n"), "200 11\nA|/|x|||y|z");
        Probe.due("only the path", p.ask("A /?b=/?c H1\r\n\r\n"), "200 11\nA|/||/?c|||");
        Probe.due("both cases of digits", p.ask("A /%4a%4A%6f%6F H1\r\n\r\n"), "200 12\nA|/JJoo|||||");
    }
}
