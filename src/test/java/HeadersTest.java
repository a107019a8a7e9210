/** Promise 2 and the term HEADERS. */
public final class HeadersTest {
    public static void main(String[] args) {
        goodAndBadLines();
        bigOnes();
        lengths();
        chunked();
        whatIsRead();
        Probe.end();
    }

    private static void goodAndBadLines() {
        String[] good = {"x:", "x:y", "X-y:z", "-:", "a: : ", "x:   ", "az-AZ:~!", "x::", "len-:a", "lens:x"};
        for (String line : good) {
            Probe.dueServed(Probe.GET + line + "\r\n\r\n");
        }
        String[] bad = {"x", ":", ":x", " x:y", "x :y", "x1:y", "x_y:z", " ", "x.y:z", "@:", "[:", "`:", "{:", "x y"};
        for (String line : bad) {
            Probe.dueRefused(Probe.GET + line + "\r\n", 400);
        }
    }

    private static void bigOnes() {
        Probe.dueServed(Probe.GET + "x:" + Probe.times("a", 30) + "\r\n\r\n");
        Probe.dueServed(Probe.GET + "x:" + Probe.times("a", 29) + "\r\n\r\n");
        Probe.dueRefused(Probe.GET + "x:" + Probe.times("a", 31), 431);
        Probe.dueRefused(Probe.GET + "x:" + Probe.times(" ", 31), 431);
        Probe.dueRefused(Probe.GET + Probe.times("?", 33), 431);
        Probe.dueRefused(Probe.GET + Probe.times("?", 32) + "\r\n", 400);
        String four = Probe.GET + "a:1\r\nb:2\r\nc:3\r\nd:4\r\n";
        Probe.dueServed(four + "\r\n");
        String[] fifth = {"e:5", "e", ":", " ", "len:x", "len:99", "chunked:no", "len:1"};
        for (String line : fifth) {
            Probe.dueRefused(four + line + "\r\n", 431);
        }
        Probe.dueRefused(four + "e\n", 400);
        Probe.dueRefused(four + "e\r\r", 400);
        Probe.dueRefused(four + Probe.times("e", 33), 431);
        Probe.dueRefused(Probe.GET + "len:1\r\nb:2\r\nc:3\r\nd:4\r\nlen:1\r\n", 431);
    }

    private static void lengths() {
        String[] bad = {"", "x", "-1", "+1", "1x", "1 1", "0001", "1000", "0x1", "1.", "/", ":"};
        for (String value : bad) {
            Probe.dueRefused(Probe.GET + "len:" + value + "\r\n", 400);
        }
        String[] large = {"41", "041", "99", "100", "999"};
        for (String value : large) {
            Probe.dueRefused(Probe.GET + "len: " + value + " \r\n", 413);
            Probe.dueRefused(Probe.GET + "x:\r\nLEN:" + value + "\r\n", 413);
        }
        String[] twice = {"len:1", "len:99", "len:x", "chunked:yes", "chunked:no", "Len:0", "CHUNKED: yes"};
        for (String second : twice) {
            Probe.dueRefused(Probe.GET + "len:1\r\n" + second + "\r\n", 400);
            Probe.dueRefused(Probe.GET + "len:0\r\nx:\r\n" + second + "\r\n", 400);
            Probe.dueRefused(Probe.GET + "chunked:yes\r\n" + second + "\r\n", 400);
        }
    }

    private static void chunked() {
        String[] bad = {"", "no", "Yes", "YES", "yes yes", "ye", "yess", "1"};
        for (String value : bad) {
            Probe.dueRefused(Probe.GET + "chunked:" + value + "\r\n", 400);
        }
        Probe.dueServed(Probe.GET + "Chunked:  yes \r\n\r\n0\r\n\r\n");
    }

    private static void whatIsRead() {
        Probe p = new Probe();
        p.stub(0, 200, "{hx-Y}|{hlen}|{hz}");
        Probe.due("any letters", p.ask(Probe.GET + "X-y:v\r\n\r\n"), "200 3\nv||");
        Probe.due("spaces at the ends", p.ask(Probe.GET + "x-y:   a  b   \r\n\r\n"), "200 6\na  b||");
        Probe.due("the first of a name", p.ask(Probe.GET + "X-Y:1\r\nx-y:2\r\n\r\n"), "200 3\n1||");
        Probe.due("colons", p.ask(Probe.GET + "x-y::a:\r\n\r\n"), "200 5\n:a:||");
        Probe.due("only spaces", p.ask(Probe.GET + "x-y:    \r\nz: k\r\n\r\n"), "200 3\n||k");
        Probe.due("len is a header too", p.ask(Probe.GET + "LEN: 002 \r\n\r\nab"), "200 5\n|002|");
    }
}
