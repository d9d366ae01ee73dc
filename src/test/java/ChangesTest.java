/** Promises 5 to 9: terms, body, sign, bare, after. */
public final class ChangesTest {
    private static void terms() {
        OrnamentsOut x = new OrnamentsOut();
        int[] first = {70, 32, 1, 1, 0, 100, 0};
        int[] least = {20, 8, 0, 0, 0, 25, 0};
        int[] most = {250, 64, 1, 1, 1, 400, 1};
        for (int what = 0; what < 7; what++) {
            Checks.due("term below", x.terms(what, least[what] - 1), -3);
            Checks.due("term above", x.terms(what, most[what] + 1), -3);
            Checks.due("term to its least", x.terms(what, least[what]), first[what]);
            Checks.due("term to its greatest", x.terms(what, most[what]), least[what]);
            Checks.due("term stands", x.count(10 + what), most[what]);
        }
        Checks.due("TONE 16", x.terms(1, 16), 64);
        Checks.due("TONE 24", x.terms(1, 24), -3);
        Checks.due("TONE 33", x.terms(1, 33), -3);
        Checks.due("TONE stays", x.count(11), 16);
        Checks.due("terms(-1, 1)", x.terms(-1, 1), -2);
        Checks.due("terms(7, -1): -2 comes first", x.terms(7, -1), -2);
    }

    private static void body() {
        OrnamentsOut x = Checks.song("note c4 1/4 tr up+ down- nb; rest 1/4; note d4 1/4 dc an;");
        Checks.due("body(0, 8)", x.body(0, 8), 1);
        Checks.due("nb stays by dc", x.note(0, 4), 1);
        Checks.due("up is told no more", x.sign(0, 1, 2), 2);
        Checks.due("down is told no more", x.sign(0, 0, 1), 2);
        Checks.due("body(0, 1)", x.body(0, 1), 8);
        Checks.due("down is told no more", x.sign(0, 0, 1), 2);
        Checks.due("body(0, 1) again", x.body(0, 1), 1);
        Checks.due("by its own kind, too", x.sign(0, 0, 2), 2);
        Checks.due("nb stays by tr", x.note(0, 4), 1);
        for (int kind = 2; kind <= 8; kind++) {
            Checks.due("body", x.body(0, kind), kind - 1);
            Checks.due("BODY is", x.note(0, 2), kind);
            Checks.due("nb is gone", x.note(0, 4), 0);
        }
        Checks.due("body(2, 0)", x.body(2, 0), 8);
        Checks.due("an stays", x.note(2, 4), 2);
        Checks.due("body(2, 9)", x.body(2, 9), -3);
        Checks.due("body(2, -1)", x.body(2, -1), -3);
        Checks.due("body of a rest", x.body(1, 1), -2);
        Checks.due("body of none", x.body(3, 99), -2);
        Checks.due("body of -1", x.body(-1, 0), -2);
        Checks.due("BODY stays", x.note(2, 2), 0);
    }

    private static void sign() {
        OrnamentsOut x = Checks.song("note c4 1/4 tu; rest 1/4; note d4 1/4;");
        Checks.due("UPPER", x.note(0, 8), 62);
        Checks.due("up flat", x.sign(0, 1, -1), 2);
        Checks.due("UPPER flat", x.note(0, 8), 61);
        Checks.due("up sharp", x.sign(0, 1, 1), -1);
        Checks.due("UPPER sharp", x.note(0, 8), 63);
        Checks.due("down flat", x.sign(0, 0, -1), 2);
        Checks.due("LOWER flat", x.note(0, 9), 58);
        Checks.due("down natural", x.sign(0, 0, 0), -1);
        Checks.due("down none", x.sign(0, 0, 2), 0);
        Checks.due("up none", x.sign(0, 1, 2), 1);
        Checks.due("UPPER again", x.note(0, 8), 62);
        Checks.due("sign of a rest", x.sign(1, 5, 5), -2);
        Checks.due("sign of none", x.sign(3, 0, 0), -2);
        Checks.due("up 2", x.sign(2, 2, 0), -3);
        Checks.due("up -1", x.sign(0, -1, 0), -3);
        Checks.due("sign 3", x.sign(0, 0, 3), -3);
        Checks.due("sign -2", x.sign(0, 0, -2), -3);
        Checks.due("no BODY", x.sign(2, 0, 0), -5);
    }

    private static void bare() {
        OrnamentsOut x = Checks.song("note c4 1/4 gr d4 e4 f4; note c4 1/4 ap d4; note c4 1/4 sl; rest 1/8; note c4 1/8;");
        Checks.due("TONES", x.count(1), 10);
        Checks.due("bare gr", x.bare(0), 3);
        Checks.due("bare again", x.bare(0), 0);
        Checks.due("bare ap", x.bare(1), 1);
        Checks.due("bare sl", x.bare(2), 2);
        Checks.due("bare of a rest", x.bare(3), -2);
        Checks.due("bare of none there", x.bare(4), 0);
        Checks.due("bare(5)", x.bare(5), -2);
        Checks.due("bare(-1)", x.bare(-1), -2);
        Checks.due("PREFIX is none", x.note(0, 3), 0);
        Checks.dueTones(x, "c4 1/4, c4 1/4, c4 1/4, c4 1/8");
        x = Checks.song("note c4 1/4 gr d4 e4 f4 g4;");
        Checks.due("as told, not as played", x.bare(0), 4);
    }

    private static void after() {
        OrnamentsOut x = Checks.song("note c4 1/4 tr; rest 1/4; note d4 1/4 mo; note e4 1/4 dc;");
        Checks.due("nb", x.after(0, 1), 0);
        Checks.due("an", x.after(0, 2), 1);
        Checks.due("nothing", x.after(0, 0), 2);
        Checks.due("nb by dc", x.after(3, 1), 0);
        Checks.due("nb by mo", x.after(2, 1), -5);
        Checks.due("an by mo", x.after(2, 2), 0);
        Checks.due("it stands", x.note(2, 4), 2);
        Checks.due("after 3", x.after(2, 3), -3);
        Checks.due("after -1", x.after(2, -1), -3);
        Checks.due("a rest", x.after(1, 9), -2);
        Checks.due("none", x.after(4, 0), -2);
        Checks.due("-1", x.after(-1, 0), -2);
    }

    public static void main(String[] args) {
        terms();
        body();
        sign();
        bare();
        after();
        Checks.end("ChangesTest");
    }
}
