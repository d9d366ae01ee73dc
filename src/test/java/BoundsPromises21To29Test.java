/** Promises 21 to 29, sentence by sentence: inKey, would, fastest, bears, instead, richest, quick, greediest, count. */
public final class BoundsPromises21To29Test {
    private static final int LEAST = Integer.MIN_VALUE;
    private static final int GREATEST = Integer.MAX_VALUE;
    private static final int[] NO_NOTE = {LEAST, -1, 4, 48, GREATEST};
    /** NOTE 1 is a rest. */
    private static final String FOUR = "note c4 1/4 gr d4 tr up+ nb;rest 1/4;note f4 1/8 mo;note g4 1/8;";

    private static OrnamentsOut x;

    // ---- promise 21

    private static void promise21WereTheKeyAnother() {
        Sentences.of(21, "UPPER's (up 1), LOWER's (0) number of a NOTE, were the KEY there another one (-7 to 7).");
        x = Checks.song("note a=4 1/4;note e=4 1/4;");
        int[] upper = {70, 70, 70, 70, 70, 70, 70, 71, 71, 71, 71, 71, 71, 71, 72};
        int[] lower = {66, 66, 66, 67, 67, 67, 67, 67, 67, 67, 68, 68, 68, 68, 68};
        int[] upperOfE = {65, 65, 65, 65, 65, 65, 65, 65, 66, 66, 66, 66, 66, 66, 66};
        for (int key = -7; key <= 7; key++) {
            Checks.due("b of a by KEY " + key, x.inKey(0, 1, key), upper[key + 7]);
            Checks.due("g of a by KEY " + key, x.inKey(0, 0, key), lower[key + 7]);
            Checks.due("f of e by KEY " + key, x.inKey(1, 1, key), upperOfE[key + 7]);
        }
        Checks.due("the KEY stays", x.note(0, 6), 0);
        Checks.due("UPPER stays", x.note(0, 8), 71);
        x = Checks.song("key 3;note b-4 1/4;note a4 1/4 mo;note g4 1/4;");
        Checks.due("HOLD comes ahead of the KEY", x.inKey(1, 1, 7), 70);
        x.terms(3, 0);
        Checks.due("HOLD 0: the KEY", x.inKey(1, 1, 7), 72);
        x.sign(1, 1, 0);
        Checks.due("up comes ahead of the KEY", x.inKey(1, 1, 7), 71);
        x.sign(1, 0, -1);
        Checks.due("down comes ahead of the KEY", x.inKey(1, 0, 7), 66);
        Checks.due("as it is", x.inKey(2, 0, 3), x.note(2, 9));
        x = Checks.song("note b8 1/4;note c0 1/4;");
        Checks.due("the greatest", x.inKey(0, 1, 7), 121);
        Checks.due("the least", x.inKey(1, 0, -7), 10);
    }

    private static void promise21Codes() {
        Sentences.of(21, "-2: the NOTE, it is a rest; -3.");
        x = Checks.song(FOUR);
        for (int note : new int[] {LEAST, -1, 1, 4, 48, GREATEST}) {
            Checks.due("inKey(" + note + ", 1, 0)", x.inKey(note, 1, 0), -2);
            Checks.due("inKey(" + note + ", 2, 8): -2 first", x.inKey(note, 2, 8), -2);
        }
        for (int up : new int[] {LEAST, -1, 2, GREATEST}) {
            Checks.due("inKey(0, " + up + ", 0)", x.inKey(0, up, 0), -3);
        }
        for (int key : new int[] {LEAST, -8, 8, GREATEST}) {
            Checks.due("inKey(0, 0, " + key + ")", x.inKey(0, 0, key), -3);
            Checks.due("inKey(0, 1, " + key + ")", x.inKey(0, 1, key), -3);
        }
    }

    // ---- promise 22

    private static void promise22WerePercentAnother() {
        Sentences.of(22, "Were PERCENT another one: what 0 how many TONES, 1 VERDICTS 2, 2 VERDICTS 3.");
        // T is 1/32 up to 107 percent (70.09 milliseconds), then 1/16 up to 214, then 1/8.
        x = Checks.song("note c4 5/32 tr nb;rest 1/32;note d4 1/8 lm;rest 1/32;note e4 1/8 gr f4 f4 f4;");
        int[][] due = {{25, 10, 2, 1}, {107, 10, 2, 1}, {108, 4, 1, 3}, {214, 4, 1, 3}, {215, 3, 0, 4}, {400, 3, 0, 4}};
        for (int[] row : due) {
            for (int what = 0; what <= 2; what++) {
                Checks.due("would(" + row[0] + ", " + what + ")", x.would(row[0], what), row[what + 1]);
            }
        }
        Checks.due("PERCENT stays", x.count(15), 100);
        Checks.due("TONES stay", x.count(1), 10);
        for (int[] row : due) {
            x.terms(5, row[0]);
            Checks.due("TONES by " + row[0], x.count(1), row[1]);
            Checks.due("VERDICTS 2 by " + row[0], x.count(4), row[2]);
            Checks.due("VERDICTS 3 by " + row[0], x.count(5), row[3]);
            Checks.due("would() doesn't ask what PERCENT is", x.would(25, 0), 10);
        }
    }

    private static void promise22Codes() {
        Sentences.of(22, "-2: what; -3.");
        for (OrnamentsOut one : new OrnamentsOut[] {Checks.song(FOUR), new OrnamentsOut()}) {
            for (int what : new int[] {LEAST, -1, 3, GREATEST}) {
                Checks.due("would(100, " + what + ")", one.would(100, what), -2);
                Checks.due("would(24, " + what + "): -2 first", one.would(24, what), -2);
            }
            for (int percent : new int[] {LEAST, -1, 0, 24, 401, GREATEST}) {
                for (int what = 0; what <= 2; what++) {
                    Checks.due("would(" + percent + ", " + what + ")", one.would(percent, what), -3);
                }
            }
        }
    }

    // ---- promises 23 and 24

    /** At the SPEED T is longer than the NOTE bears from the next PERCENT on. */
    private static void dueFastest(String text, int limit, int percent) {
        x = Checks.song(text);
        x.terms(0, limit);
        Checks.due("fastest of " + text, x.fastest(), percent);
        Checks.due("bears of " + text, x.bears(0), percent);
        if (percent >= 25) {
            Checks.due("none is LESS or AWAY by it", x.would(percent, 1) + x.would(percent, 2), 0);
        }
        if (percent >= 25 && percent < 400) {
            Checks.holds("one is by the next", x.would(percent + 1, 1) + x.would(percent + 1, 2) > 0);
        }
        Checks.due("PERCENT stays", x.count(15), 100);
    }

    private static void promise23TheGreatestPercent() {
        Sentences.of(23, "The greatest PERCENT (25 to 400) by which no VERDICT is 2 or 3.");
        // 1/32 at SPEED 100 is 7500 by PERCENT milliseconds: not below LIMIT as long as PERCENT is no more than 7500 by LIMIT.
        dueFastest("note c4 3/32 mo;", 70, 107);
        dueFastest("note c4 3/32 mo;", 75, 100);
        dueFastest("note c4 3/32 mo;", 20, 375);
        dueFastest("note c4 3/32 mo;", 250, 30);
        dueFastest("speed 120;note c4 3/32 mo;", 250, 25);
        dueFastest("speed 121;note c4 3/32 mo;", 250, -1);
        dueFastest("speed 90;note c4 3/32 mo;", 20, 400);
        dueFastest("note c4 1/4;", 250, 400);
        x = Checks.song("note c4 3/16 mo;rest 1/4;note c4 3/32 mo;");
        Checks.due("of all NOTES", x.fastest(), 107);
        x = Checks.song("note c4 3/32;note c4 1/32 mo;");
        Checks.due("by none", x.fastest(), -1);
        Checks.text(x, "rest 1/4;");
        Checks.text(x, "note c4 3/32;");
        Checks.due("a NOTE of a former text doesn't count", x.fastest(), 400);
        x = Checks.song("rest 1/4;");
        Checks.due("of a rest", x.fastest(), 400);
        Checks.due("of no NOTES", new OrnamentsOut().fastest(), 400);
    }

    private static void promise23NoneByNone() {
        Sentences.of(23, "NONE: by none.");
        x = Checks.song("note c4 1/4 an;");
        Checks.due("an of the last NOTE", x.fastest(), -1);
        x = Checks.song("note c4 1/32 mo;");
        Checks.due("mo of 1/32", x.fastest(), -1);
        x = Checks.song("note c4 1/1 mo;note c4 1/32 tr;note c4 1/2;");
        Checks.due("one of three", x.fastest(), -1);
    }

    private static void promise24AllVerdictsOfANote() {
        Sentences.of(24, "The greatest PERCENT by which all VERDICTS of a NOTE are 0 or 1.");
        x = Checks.song("note c4 3/16 mo;rest 1/4;note c4 3/32 mo;note c4 1/32 mo;note d4 1/4 gr e4 tr nb;");
        Checks.due("mo of 3/16", x.bears(0), 214);
        Checks.due("a rest", x.bears(1), 400);
        Checks.due("mo of 3/32", x.bears(2), 107);
        // Its GRACE takes T of itself and is UPPER: 3 T are needed behind it, 5 with the AFTERBEAT.
        Checks.due("PREFIX, BODY and nb", x.bears(4), 107);
        x.after(4, 0);
        Checks.due("PREFIX and BODY", x.bears(4), 214);
        x.body(4, 0);
        Checks.due("PREFIX alone: 1/4 bears T of 1/8", x.bears(4), 400);
        x = Checks.song("note c4 1/4;note d4 1/32 gr e4;");
        Checks.due("GRACES of the one ahead: T of 1/8", x.bears(1), 400);
        x = Checks.song("note c4 1/8;note d4 1/32 gr e4;");
        Checks.due("GRACES of the one ahead: T of 1/16", x.bears(1), 214);
        x = Checks.song("note c4 1/8 an;note d4 1/32;");
        Checks.due("an: T of 1/16", x.bears(0), 214);
    }

    private static void promise24Codes() {
        Sentences.of(24, "NONE; -2.");
        x = Checks.song(FOUR);
        x.after(3, 2);
        Checks.due("by none", x.bears(3), -1);
        for (int note : NO_NOTE) {
            Checks.due("bears(" + note + ")", x.bears(note), -2);
        }
        Checks.due("without NOTES", new OrnamentsOut().bears(0), -2);
    }

    // ---- promises 25 and 26

    private static void promise25WereTheBodyAnother() {
        Sentences.of(25, "Were a NOTE's BODY another one (as for body()): how many TONES there would be in all.");
        x = Checks.song("note c4 1/4 tr up+ nb;rest 1/4;note e4 1/4 gr f4 mo;");
        int[] first = {1, 8, 3, 4, 4, 5, 4, 5, 8};
        for (int kind = 0; kind <= 8; kind++) {
            Checks.due("instead(0, " + kind + ")", x.instead(0, kind), first[kind] + 4);
        }
        Checks.due("BODY stays", x.note(0, 2), 1);
        Checks.due("up stays", x.sign(0, 1, 1), 1);
        Checks.due("nb stays", x.note(0, 4), 1);
        Checks.due("TONES stay", x.count(1), 12);
        for (int kind = 0; kind <= 8; kind++) {
            x = Checks.song("note d4 1/4;note c4 1/4 tr up+ nb;note e4 1/4 gr f4 mo;");
            int would = x.instead(1, kind);
            x.body(1, kind);
            Checks.due("as body(1, " + kind + ") makes it", x.count(1), would);
        }
        // What it leaves of its last TONE is what the next one's GRACES come from.
        x = Checks.song("note c4 3/32;note d4 1/32 gr e4;");
        Checks.due("its own, and the next one's GRACE", x.instead(0, 0), 3);
        Checks.due("mo leaves too little for it", x.instead(0, 2), 4);
    }

    private static void promise25Codes() {
        Sentences.of(25, "-2: the NOTE, it is a rest; -3.");
        x = Checks.song(FOUR);
        for (int note : new int[] {LEAST, -1, 1, 4, 48, GREATEST}) {
            Checks.due("instead(" + note + ", 0)", x.instead(note, 0), -2);
            Checks.due("instead(" + note + ", 9): -2 first", x.instead(note, 9), -2);
        }
        for (int kind : new int[] {LEAST, -1, 9, GREATEST}) {
            Checks.due("instead(0, " + kind + ")", x.instead(0, kind), -3);
        }
    }

    private static void promise26TheMostTones() {
        Sentences.of(26, "The BODY (0 to 8) by which, in place of its own, a NOTE would have the most TONES, the least of like ones.");
        String[] lengths = {"1/32", "2/32", "3/32", "4/32", "5/32", "6/32", "7/32", "8/32"};
        // One TONE by all; 3 by tr as pr; 4 by tr; 5 by lm; 6 by tr; 6 by tr; 8 by tr.
        int[] due = {0, 0, 1, 1, 7, 1, 1, 1};
        for (int i = 0; i < lengths.length; i++) {
            x = Checks.song("note c4 " + lengths[i] + ";");
            Checks.due("richest of " + lengths[i], x.richest(0), due[i]);
            x = Checks.song("note c4 " + lengths[i] + " it;");
            Checks.due("whatever its own is", x.richest(0), due[i]);
            Checks.due("it stays", x.note(0, 2), 6);
        }
        x = Checks.song("note d4 1/4;note c4 6/32;");
        Checks.due("5 by tr behind UPPER, 6 by dc", x.richest(1), 8);
        x = Checks.song("meter 4/1;note c4 4/1;");
        Checks.due("64 by tr, 66 by dc", x.richest(0), 8);
        x = Checks.song("note c4 4/32 mo;note e4 1/8 gr f4 f4 f4;");
        Checks.due("its own TONES alone count", x.richest(0), 1);
    }

    private static void promise26Codes() {
        Sentences.of(26, "-2: the NOTE, it is a rest.");
        x = Checks.song(FOUR);
        for (int note : new int[] {LEAST, -1, 1, 4, 48, GREATEST}) {
            Checks.due("richest(" + note + ")", x.richest(note), -2);
        }
        Checks.due("without NOTES", new OrnamentsOut().richest(0), -2);
    }

    // ---- promises 27 to 29

    private static void promise27HowManyAreQuick() {
        Sentences.of(27, "How many TONES in all are QUICK (as their NOTE's SPEED is).");
        Checks.due("without NOTES", new OrnamentsOut().quick(), 0);
        Checks.due("of rests", Checks.song("speed 400;rest 1/32;").quick(), 0);
        x = Checks.song("note c4 1/32;speed 101;note c4 1/32;speed 400;note c4 1/32;note c4 1/8;");
        x.terms(0, 75);
        Checks.due("75 isn't below 75; 74.3 and 18.75 are", x.quick(), 2);
        x.terms(0, 76);
        Checks.due("below 76: three; 75 at SPEED 400, too", x.quick(), 4);
        x.terms(5, 25);
        Checks.due("75 by PERCENT 25: but 1/32 at 400", x.quick(), 1);
        for (int fast = 0; fast < 20; fast++) {
            x = Checks.song("note c4 1/32;".repeat(fast) + "speed 400;note c4 1/32;speed 100;" + "note c4 1/32;".repeat(19 - fast));
            Checks.due("NOTE " + fast + " alone", x.quick(), 1);
        }
        // GRACES ahead go by the SPEED of their own NOTE, that of an by the one it is behind.
        x = Checks.song("speed 20;note c4 1/1 an;speed 400;note d4 1/4;");
        Checks.due("a TONE of an at SPEED 20: T there isn't QUICK", x.quick(), 0);
        x = Checks.song("note c4 1/32 gr d4;note c4 1/16 gr d4;");
        Checks.due("what is left is T", x.quick(), 0);
        x = Checks.song("note c4 3/32 ap d4;");
        x.terms(0, 100);
        Checks.due("a GRACE of 150, PRINCIPAL of 75", x.quick(), 1);
    }

    private static void promise28TheGreediest() {
        Sentences.of(28, "The NOTE that BORROWED most (from itself and from the one ahead together), the first of like ones.");
        x = Checks.song("note c4 1/4;note d4 1/4 gr e4 f4;note c4 1/8 sl;note c4 1/8 ap d4;note e4 1/8;note c4 1/8 gr d4 d4;");
        Checks.due("1/16 of all four", x.greediest(), 1);
        x.bare(1);
        Checks.due("of three, from itself", x.greediest(), 2);
        x.bare(2);
        Checks.due("of two", x.greediest(), 3);
        x.bare(3);
        Checks.due("from the one ahead", x.greediest(), 5);
        x = Checks.song("note c4 1/4 gr d4;note d4 1/4 gr e4 f4;note c4 1/4 gr d4 d4 d4;");
        Checks.due("the most, not the first", x.greediest(), 2);
        x = Checks.song("note c4 1/4;note d4 1/4 gr e4;");
        Checks.due("NOTE 1", x.greediest(), 1);
        Checks.text(x, "note c4 1/4;");
        Checks.due("a NOTE of a former text doesn't count", x.greediest(), -1);
    }

    private static void promise28None() {
        Sentences.of(28, "NONE: none BORROWED any.");
        Checks.due("without NOTES", new OrnamentsOut().greediest(), -1);
        Checks.due("of a rest", Checks.song("rest 1/4;").greediest(), -1);
        Checks.due("of a BODY alone", Checks.song("note c4 1/4 tr nb;").greediest(), -1);
        Checks.due("an borrows none", Checks.song("note c4 1/4 an;note d4 1/4;").greediest(), -1);
        Checks.due("of a PREFIX that is AWAY", Checks.song("note c4 1/32 gr d4 e4;").greediest(), -1);
        x = Checks.song("note c4 1/4 gr d4;");
        Checks.due("of one", x.greediest(), 0);
        x.bare(0);
        Checks.due("of one no more", x.greediest(), -1);
    }

    private static void promise29Counts() {
        Sentences.of(29, "0 NOTES, 1 TONES, 2 BARS, 3 bytes on THE TAPE, 4 VERDICTS 2, 5 VERDICTS 3, 6 notes that have neither PREFIX nor BODY nor an,"
            + " 7, 8 upper, lower number of how long all is, 10 to 16 TERMS.");
        x = Checks.song("note c4 1/4;rest 1/8;note c4 1/8 sl;note c4 1/8 tr;note c4 1/4 an;note c4 3/32 pr;note c4 1/32 mo;note c4 1/16;");
        x.feed(0, 0, 0, 0, 0);
        int[] due = {8, 15, 2, 20, 1, 1, 2, 17, 16, -1, 70, 32, 1, 1, 0, 100, 0, -1};
        for (int what = 0; what < due.length; what++) {
            Checks.due("count(" + what + ")", x.count(what), due[what]);
        }
        x.bare(2);
        Checks.due("one that was bared is one more", x.count(6), 3);
        x.body(3, 0);
        x.after(4, 0);
        Checks.due("and two more", x.count(6), 5);
        x.after(4, 2);
        Checks.due("and one less", x.count(6), 4);
        Checks.text(x, "");
        x.text(0);
        for (int what = 0; what <= 7; what++) {
            Checks.due("count(" + what + ") of nothing", x.count(what), 0);
        }
        Checks.due("0 by 1", x.count(8), 1);
        x = Checks.song("meter 16/1;note c4 16/1;" + "tie16/1;".repeat(95));
        Checks.due("as long as can be", x.count(7), 1536);
        Checks.due("by 1", x.count(8), 1);
        x = Checks.song("rest 1/32;".repeat(48));
        Checks.due("48 NOTES", x.count(0), 48);
        Checks.due("rests aren't notes", x.count(6), 0);
        for (int i = 0; i < 40; i++) {
            x.feed(0, 0, 0, 0, 0);
        }
        Checks.due("800 bytes", x.count(3), 800);
    }

    private static void promise29NoneForOthers() {
        Sentences.of(29, "NONE for others.");
        for (OrnamentsOut one : new OrnamentsOut[] {Checks.song(FOUR), new OrnamentsOut()}) {
            for (int what : new int[] {LEAST, -2, -1, 9, 17, 18, GREATEST}) {
                Checks.due("count(" + what + ")", one.count(what), -1);
            }
        }
    }

    public static void main(String[] args) {
        promise21WereTheKeyAnother();
        promise21Codes();
        promise22WerePercentAnother();
        promise22Codes();
        promise23TheGreatestPercent();
        promise23NoneByNone();
        promise24AllVerdictsOfANote();
        promise24Codes();
        promise25WereTheBodyAnother();
        promise25Codes();
        promise26TheMostTones();
        promise26Codes();
        promise27HowManyAreQuick();
        promise28TheGreediest();
        promise28None();
        promise29Counts();
        promise29NoneForOthers();
        Sentences.end("BoundsPromises21To29Test");
    }
}
