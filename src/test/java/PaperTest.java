/** Promises 21 to 29: inKey, would, fastest, bears, instead, richest, quick, greediest, count. */
public final class PaperTest {
    private static void inKey() {
        OrnamentsOut x = Checks.song("note e4 1/8 tu; note a4 1/8; rest 1/4; note b-4 1/8; note a4 1/8;");
        Checks.due("inKey(0, 1, 0)", x.inKey(0, 1, 0), 65);
        Checks.due("inKey(0, 1, 1)", x.inKey(0, 1, 1), 66);
        Checks.due("inKey(0, 0, -4)", x.inKey(0, 0, -4), 61);
        Checks.due("f- isn't above e", x.inKey(0, 1, -7), 65);
        Checks.due("inKey(1, 1, -1)", x.inKey(1, 1, -1), 70);
        Checks.due("inKey(1, 0, 7)", x.inKey(1, 0, 7), 68);
        Checks.due("HOLD comes ahead of the KEY", x.inKey(4, 1, 7), 70);
        x.terms(3, 0);
        Checks.due("HOLD 0", x.inKey(4, 1, 7), 72);
        x.sign(0, 1, 1);
        Checks.due("up comes ahead of the KEY", x.inKey(0, 1, -7), 66);
        Checks.due("the KEY stays", x.note(1, 6), 0);
        Checks.due("UPPER stays", x.note(1, 8), 71);
        Checks.due("a rest", x.inKey(2, 1, 0), -2);
        Checks.due("none", x.inKey(5, 9, 9), -2);
        Checks.due("-1", x.inKey(-1, 0, 0), -2);
        Checks.due("up 2", x.inKey(0, 2, 0), -3);
        Checks.due("up -1", x.inKey(0, -1, 0), -3);
        Checks.due("key 8", x.inKey(0, 0, 8), -3);
        Checks.due("key -8", x.inKey(0, 0, -8), -3);
    }

    private static void would() {
        OrnamentsOut x = Checks.song("note c4 1/4 tr; note d4 1/8 mo; note e4 1/4 gr f4 f4;");
        int[][] due = {{25, 14, 0, 0}, {100, 14, 0, 0}, {107, 14, 0, 0}, {108, 8, 0, 1}, {215, 4, 1, 2}, {400, 4, 1, 2}};
        for (int[] row : due) {
            for (int what = 0; what < 3; what++) {
                Checks.due("would(" + row[0] + ", " + what + ")", x.would(row[0], what), row[what + 1]);
            }
        }
        Checks.due("PERCENT stays", x.count(15), 100);
        Checks.due("TONES stay", x.count(1), 14);
        Checks.due("would(24, 0)", x.would(24, 0), -3);
        Checks.due("would(401, 0)", x.would(401, 0), -3);
        Checks.due("would(100, 3)", x.would(100, 3), -2);
        Checks.due("would(24, -1): what first", x.would(24, -1), -2);
        x.terms(5, 215);
        Checks.due("as it then is", x.count(1), 4);
        Checks.due("VERDICTS 2", x.count(4), 1);
        Checks.due("VERDICTS 3", x.count(5), 2);
    }

    private static void fastestAndBears() {
        OrnamentsOut x = Checks.song("note c4 1/4 tr; note d4 1/8 mo; rest 1/8; note e4 1/4;");
        Checks.due("fastest", x.fastest(), 107);
        Checks.due("bears(0)", x.bears(0), 214);
        Checks.due("bears(1)", x.bears(1), 107);
        Checks.due("bears a rest", x.bears(2), 400);
        Checks.due("bears a plain note", x.bears(3), 400);
        Checks.due("bears(4)", x.bears(4), -2);
        Checks.due("bears(-1)", x.bears(-1), -2);
        Checks.due("PERCENT stays", x.count(15), 100);
        x.after(3, 2);
        Checks.due("by none: fastest", x.fastest(), -1);
        Checks.due("by none: bears", x.bears(3), -1);
        Checks.due("without NOTES", new OrnamentsOut().fastest(), 400);
        x = Checks.song("speed 400; note c4 1/32 mo;");
        Checks.due("too short by 25 percent", x.bears(0), -1);
        x.terms(0, 20);
        x.terms(1, 64);
        Checks.due("3 T are no more than 1/32 by none", x.bears(0), -1);
        x = Checks.song("speed 400; note c4 1/16 mo;");
        x.terms(0, 20);
        x.terms(1, 64);
        Checks.due("by 25 to 46: 9.375 by 100 percent", x.bears(0), 46);
        x = Checks.song("note c4 1/4; note d4 1/8 gr e4 e4;");
        Checks.due("GRACES from the one ahead", x.bears(1), 214);
    }

    private static void insteadAndRichest() {
        OrnamentsOut x = Checks.song("note d4 1/4; note c4 1/4 tr up+ nb; rest 1/4; note e4 1/4;");
        Checks.due("TONES", x.count(1), 10);
        int[] due = {3, 9, 5, 5, 6, 7, 6, 7, 10};
        for (int kind = 0; kind <= 8; kind++) {
            Checks.due("instead(1, " + kind + ")", x.instead(1, kind), due[kind]);
        }
        Checks.due("richest: its own without up has 7", x.richest(1), 8);
        Checks.due("BODY stays", x.note(1, 2), 1);
        Checks.due("up stays", x.sign(1, 1, 1), 1);
        Checks.due("nb stays", x.note(1, 4), 1);
        Checks.due("TONES stay", x.count(1), 10);
        Checks.due("instead(3, 4)", x.instead(3, 4), 13);
        Checks.due("instead of a rest", x.instead(2, 99), -2);
        Checks.due("instead of none", x.instead(4, 0), -2);
        Checks.due("instead(0, 9)", x.instead(0, 9), -3);
        Checks.due("instead(0, -1)", x.instead(0, -1), -3);
        Checks.due("richest of a rest", x.richest(2), -2);
        Checks.due("richest of none", x.richest(4), -2);
        Checks.due("richest(-1)", x.richest(-1), -2);
        Checks.due("the least of like ones", Checks.song("note c4 1/32;").richest(0), 0);
        Checks.due("tr and tu of 4 are alike", Checks.song("note c4 1/8 tu;").richest(0), 1);
        Checks.due("lm of 5", Checks.song("note c4 5/32;").richest(0), 7);
    }

    private static void quick() {
        OrnamentsOut x = Checks.song("note c4 1/32; note c4 1/4 mo; speed 300; note c4 1/16; note c4 1/32;");
        Checks.due("one of 25 milliseconds, one of 50", x.quick(), 2);
        x.terms(0, 75);
        Checks.due("75 isn't below 75", x.quick(), 2);
        x.terms(0, 76);
        Checks.due("75 is below 76, and T is longer", x.quick(), 3);
        x.terms(5, 400);
        Checks.due("by PERCENT", x.quick(), 3);
        Checks.due("without NOTES", new OrnamentsOut().quick(), 0);
    }

    private static void greediest() {
        OrnamentsOut x = Checks.song("note c4 1/4; note d4 1/4 gr e4; note d4 1/4 gr e4 f4; note c4 1/8 sl; note c4 1/8;");
        Checks.due("the first of like ones", x.greediest(), 2);
        x.bare(2);
        Checks.due("that from itself counts, too", x.greediest(), 3);
        x.bare(3);
        Checks.due("from the one ahead", x.greediest(), 1);
        x.bare(1);
        Checks.due("none", x.greediest(), -1);
        Checks.due("without NOTES", new OrnamentsOut().greediest(), -1);
        Checks.due("AWAY takes nothing", Checks.song("note c4 1/32 gr d4;").greediest(), -1);
    }

    private static void count() {
        OrnamentsOut x = Checks.song("note c4 1/4; rest 1/8; note c4 1/4 sl; note c4 1/8 tr; note c4 1/4 an; note c4 3/32 pr; note c4 1/16 mo;");
        x.feed(0, 0, 0, 0, 0);
        long[] due = {7, 14, 2, 20, 1, 1, 1, 37, 32, -1, 70, 32, 1, 1, 0, 100, 0, -1};
        for (int what = 0; what < due.length; what++) {
            Checks.due("count(" + what + ")", x.count(what), due[what]);
        }
        Checks.due("count(-1)", x.count(-1), -1);
        Checks.due("count(least)", x.count(Integer.MIN_VALUE), -1);
        Checks.due("count(greatest)", x.count(Integer.MAX_VALUE), -1);
    }

    public static void main(String[] args) {
        inKey();
        would();
        fastestAndBears();
        insteadAndRichest();
        quick();
        greediest();
        count();
        Checks.end("PaperTest");
    }
}
