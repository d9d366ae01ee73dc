/** Promises 10 to 15, sentence by sentence: note, begin, length, borrowed, tone, milliseconds. */
public final class BoundsPromises10To15Test {
    private static final int LEAST = Integer.MIN_VALUE;
    private static final int GREATEST = Integer.MAX_VALUE;
    private static final int[] NO_NOTE = {LEAST, -1, 3, 48, GREATEST};
    private static final String THREE = "note c4 1/4 gr d4 tr nb;rest 1/4;note f4 1/8 ap g4;";

    private static OrnamentsOut x;

    private static void dueNote(int note, int what, int... inOrder) {
        for (int i = 0; i < inOrder.length; i++) {
            Checks.due("note(" + (note + i) + ", " + what + ")", x.note(note + i, what), inOrder[i]);
        }
    }

    private static void dueBegin(int note, int upper, int lower) {
        Checks.dueFraction("begin of " + note, x.begin(note, 0), x.begin(note, 1), upper, lower);
    }

    private static void dueLength(int note, int upper, int lower) {
        Checks.dueFraction("length of " + note, x.length(note, 0), x.length(note, 1), upper, lower);
    }

    private static void dueBorrowed(int note, int from, int upper, int lower) {
        Checks.dueFraction("borrowed of " + note + " from " + from, x.borrowed(note, from, 0), x.borrowed(note, from, 1), upper, lower);
    }

    private static void dueTone(int note, int upper, int lower) {
        Checks.dueFraction("tone of " + note, x.tone(note, 0), x.tone(note, 1), upper, lower);
    }

    // ---- promise 10

    private static void promise10NumberAndBar() {
        Sentences.of(10, "Of a NOTE, what 0 its number (NONE: a rest), 1 BAR in which it begins,");
        x = Checks.song("note c-0 1/4;rest 1/4;note b+8 1/2;note c4 1/1;tie 1/1;rest 1/32;note d4 1/32;");
        dueNote(0, 0, 11, -1, 120, 60, -1, 62);
        dueNote(0, 1, 0, 0, 0, 1, 3, 3);
        x = Checks.song("meter 1/16;" + "rest 1/16;".repeat(48));
        Checks.due("BAR of the 48th", x.note(47, 1), 47);
        x = Checks.song("note c4 1/1;note d4 1/4 gr e4;");
        Checks.due("the NOTE's BAR, not its GRACE's", x.note(1, 1), 1);
    }

    private static void promise10BodyPrefixAndBehind() {
        Sentences.of(10, "2 BODY (as for body()), 3 PREFIX: 0 none, 1 to 4 gr of so many, 5 ap, 6 sl, 4 1 if nb, 2 if an, else 0,");
        x = Checks.song("note c4 1/32 tr;note c4 1/32 mo;note c4 1/32 pr;note c4 1/32 tu;note c4 1/32 dt;note c4 1/32 it;note c4 1/32 lm;"
            + "note c4 1/32 dc;note c4 1/32;rest 1/32;");
        dueNote(0, 2, 1, 2, 3, 4, 5, 6, 7, 8, 0, 0);
        x = Checks.song("note c4 1/32 gr d4;note c4 1/32 gr d4 d4;note c4 1/32 gr d4 d4 d4;note c4 1/32 gr d4 d4 d4 d4;note c4 1/32 ap d4;"
            + "note c4 1/32 sl;note c4 1/32;rest 1/32;");
        dueNote(0, 3, 1, 2, 3, 4, 5, 6, 0, 0);
        x = Checks.song("note c4 1/32 tr nb;note c4 1/32 dc nb;note c4 1/32 an;note c4 1/32 tr an;note c4 1/32 tr;rest 1/32;");
        dueNote(0, 4, 1, 1, 2, 2, 0, 0);
    }

    private static void promise10TiesKeyAndSpeed() {
        Sentences.of(10, "5 how many ties, 6 KEY there (-7 to 7), 7 SPEED there,");
        x = Checks.song("key -7;speed 20;note c4 1/4;key 7;speed 400;tie 1/4;tie 1/4;rest 1/4;key 0;speed 100;note c4 1/4;tie 1/32;");
        dueNote(0, 5, 2, 0, 1);
        dueNote(0, 6, -7, 7, 0);
        dueNote(0, 7, 20, 400, 100);
        x = Checks.song("note c4 1/1;" + "tie1/1;".repeat(112));
        Checks.due("as many ties as a text can have", x.note(0, 5), 112);
    }

    private static void promise10Neighbours() {
        Sentences.of(10, "8 UPPER's, 9 LOWER's, 10 LOW's number (NONE: a rest),");
        x = Checks.song("note c0 1/4;rest 1/4;note b8 1/4;note c4 1/4;");
        dueNote(0, 8, 14, -1, 120, 62);
        dueNote(0, 9, 11, -1, 117, 59);
        dueNote(0, 10, 9, -1, 115, 57);
        Checks.due("the least LOW", Checks.song("key -7;note c0 1/4;").note(0, 10), 8);
        Checks.due("the greatest UPPER", Checks.song("key 7;note b8 1/4;").note(0, 8), 121);
    }

    private static void promise10Verdicts() {
        Sentences.of(10, "11 VERDICT of PREFIX, 12 of BODY, 13 of nb or an,");
        x = Checks.song("note c4 1/2 gr d4 tr nb;note c4 5/32 gr d4 e4 f4 pr an;note c4 1/32 sl mo an;rest 1/32;note c4 1/32;");
        // The AFTERBEAT's last TONE is but T long, so that the next NOTE's GRACES can't be in it.
        dueNote(0, 11, 1, 2, 3, 0, 0);
        dueNote(0, 12, 1, 2, 3, 0, 0);
        dueNote(0, 13, 1, 3, 3, 0, 0);
    }

    private static void promise10Tones() {
        Sentences.of(10, "14 its first TONE, 15 how many TONES (a rest: NONE, 0; GRACES ahead count as its own).");
        x = Checks.song("note c4 1/4 mo;rest 1/4;note d4 1/4;note e4 1/8 gr f4 g4 an;note d4 1/32;rest 1/32;");
        dueNote(0, 14, 0, -1, 3, 4, 8, -1);
        dueNote(0, 15, 3, 0, 1, 4, 1, 0);
        x = Checks.song("note c4 1/32;".repeat(48));
        Checks.due("first TONE of the 48th", x.note(47, 14), 47);
        x = Checks.song("meter 16/1;note c4 8/1 gr d4 d4 d4 d4 dc nb;");
        Checks.due("as many as a NOTE can have but for an", x.note(0, 15), 4 + 2 + 64 + 2);
        x = Checks.song("meter 16/1;speed 99;note c4 8/1 gr e4 e4 e4 e4 dc an;note d4 1/8;");
        Checks.due("with that of an", x.note(0, 15), 4 + 2 + 64 + 1);
    }

    private static void promise10Codes() {
        Sentences.of(10, "-2: the NOTE; -100: another what.");
        x = Checks.song(THREE);
        for (int note : NO_NOTE) {
            for (int what : new int[] {LEAST, -1, 0, 14, 15, 16, GREATEST}) {
                Checks.due("note(" + note + ", " + what + ")", x.note(note, what), -2);
            }
        }
        for (int note = 0; note < 3; note++) {
            for (int what : new int[] {LEAST, -100, -1, 16, 17, GREATEST}) {
                Checks.due("note(" + note + ", " + what + ")", x.note(note, what), -100);
            }
        }
        Checks.due("without NOTES", new OrnamentsOut().note(0, 16), -2);
    }

    // ---- promises 11 to 15

    private static void promise11WhenItBegins() {
        Sentences.of(11, "When a NOTE begins.");
        x = Checks.song("note c4 1/32;rest 1/16;note c4 1/4 gr d4;tie 1/4;note d4 1/4 gr e4;");
        dueBegin(0, 0, 1);
        dueBegin(1, 1, 32);
        dueBegin(2, 3, 32);
        dueBegin(3, 19, 32);
        x = Checks.song("meter 16/1;note c4 16/1;" + "tie16/1;".repeat(93) + "note c4 1/1;");
        dueBegin(1, 16 * 94, 1);
    }

    private static void promise11Codes() {
        Sentences.of(11, "-2.");
        x = Checks.song(THREE);
        for (int note : NO_NOTE) {
            Checks.due("begin(" + note + ", 0)", x.begin(note, 0), -2);
            Checks.due("begin(" + note + ", 1)", x.begin(note, 1), -2);
        }
        for (int what : new int[] {LEAST, -1, 2, GREATEST}) {
            Checks.due("begin(0, " + what + ")", x.begin(0, what), -2);
            Checks.due("begin(1, " + what + ")", x.begin(1, what), -2);
        }
    }

    private static void promise12TheLength() {
        Sentences.of(12, "L.");
        x = Checks.song("note c4 1/32;rest 1/16;note c4 1/4 gr d4;tie 1/4;note d4 1/4 gr e4;");
        dueLength(0, 1, 32);
        dueLength(1, 1, 16);
        dueLength(2, 1, 2);
        dueLength(3, 1, 4);
        x = Checks.song("meter 16/1;note c4 16/1;" + "tie16/1;".repeat(95));
        dueLength(0, 16 * 96, 1);
        x = Checks.song("note c4 31/32;tie 1/32;tie 1/1;");
        dueLength(0, 2, 1);
    }

    private static void promise12Codes() {
        Sentences.of(12, "-2.");
        x = Checks.song(THREE);
        for (int note : NO_NOTE) {
            Checks.due("length(" + note + ", 0)", x.length(note, 0), -2);
            Checks.due("length(" + note + ", 1)", x.length(note, 1), -2);
        }
        for (int what : new int[] {LEAST, -1, 2, GREATEST}) {
            Checks.due("length(0, " + what + ")", x.length(0, what), -2);
            Checks.due("length(1, " + what + ")", x.length(1, what), -2);
        }
    }

    private static void promise13FromWhom() {
        Sentences.of(13, "BORROWED by a NOTE from itself (from 0), from the one ahead (1); what the next one BORROWED from it (2).");
        x = Checks.song("note c4 1/4 gr d4;note d4 1/4 gr e4 f4;note e4 1/4 ap f4;rest 1/4;note e4 1/4 gr f4 f4 f4 f4;");
        int[][] due = {{1, 32, 0, 1, 1, 16}, {0, 1, 1, 16, 0, 1}, {1, 8, 0, 1, 0, 1}, {0, 1, 0, 1, 0, 1}, {1, 8, 0, 1, 0, 1}};
        for (int note = 0; note < 5; note++) {
            for (int from = 0; from <= 2; from++) {
                dueBorrowed(note, from, due[note][2 * from], due[note][2 * from + 1]);
            }
        }
        x = Checks.song("meter 16/1;" + "note c4 1/4;".repeat(48));
        dueBorrowed(47, 2, 0, 1);
        dueBorrowed(0, 1, 0, 1);
        x = Checks.song("note c4 1/4;note d4 1/4 gr e4;");
        dueBorrowed(0, 2, 1, 32);
        x.bare(1);
        dueBorrowed(0, 2, 0, 1);
        // The next one of a text that is no more.
        x = Checks.song("note c4 1/4;note d4 1/4 gr e4;");
        Checks.text(x, "note c4 1/4;");
        dueBorrowed(0, 2, 0, 1);
    }

    private static void promise13Codes() {
        Sentences.of(13, "-2: from, too.");
        x = Checks.song(THREE);
        for (int note : NO_NOTE) {
            Checks.due("borrowed(" + note + ", 0, 0)", x.borrowed(note, 0, 0), -2);
            Checks.due("borrowed(" + note + ", 2, 1)", x.borrowed(note, 2, 1), -2);
        }
        for (int one : new int[] {LEAST, -1, 3, GREATEST}) {
            for (int note = 0; note < 3; note++) {
                Checks.due("borrowed(" + note + ", " + one + ", 0)", x.borrowed(note, one, 0), -2);
                Checks.due("borrowed(" + note + ", 0, " + one + ")", x.borrowed(note, 0, one), -2);
                Checks.due("borrowed(" + note + ", 2, " + one + ")", x.borrowed(note, 2, one), -2);
            }
        }
        Checks.due("borrowed(0, 0, 2)", x.borrowed(0, 0, 2), -2);
    }

    private static void promise14TheTone() {
        Sentences.of(14, "T of a NOTE.");
        x = Checks.song("speed 20;note c4 1/4;speed 400;note c4 1/4;rest 1/4;");
        dueTone(0, 1, 32);
        dueTone(1, 1, 8);
        dueTone(2, 1, 8);
        x.terms(0, 20);
        x.terms(5, 25);
        x.terms(1, 64);
        dueTone(0, 1, 64);
        dueTone(1, 1, 64);
        x.terms(0, 250);
        x.terms(5, 400);
        dueTone(1, 2, 1);
        x.terms(0, 37);
        x.terms(5, 100);
        // At SPEED 400 1/16 is 37.5 milliseconds.
        dueTone(1, 1, 16);
        x.terms(0, 38);
        dueTone(1, 1, 8);
    }

    private static void promise14Codes() {
        Sentences.of(14, "-2.");
        x = Checks.song(THREE);
        for (int note : NO_NOTE) {
            Checks.due("tone(" + note + ", 0)", x.tone(note, 0), -2);
            Checks.due("tone(" + note + ", 1)", x.tone(note, 1), -2);
        }
        for (int what : new int[] {LEAST, -1, 2, GREATEST}) {
            Checks.due("tone(0, " + what + ")", x.tone(0, what), -2);
            Checks.due("tone(1, " + what + ")", x.tone(1, what), -2);
        }
    }

    private static void promise15Cut() {
        Sentences.of(15, "MILLISECONDS of L, cut.");
        x = Checks.song("meter 2/1;speed 400;note c4 1/32;speed 60;note c4 1/4;rest 1/32;speed 20;note c4 1/2;tie 1/2;");
        Checks.due("18.75", x.milliseconds(0), 18);
        Checks.due("1000", x.milliseconds(1), 1000);
        Checks.due("125, of a rest", x.milliseconds(2), 125);
        Checks.due("12000, with its tie", x.milliseconds(3), 12000);
        x.terms(5, 400);
        Checks.due("4.6875", x.milliseconds(0), 4);
        x.terms(5, 101);
        Checks.due("990.09", x.milliseconds(1), 990);
        x.terms(5, 99);
        Checks.due("1010.1", x.milliseconds(1), 1010);
        x = Checks.song("speed20;meter16/1;note c4 16/1;" + "tie16/1;".repeat(96));
        x.terms(5, 25);
        Checks.due("the longest", x.milliseconds(0), 16 * 97 * 48000);
    }

    private static void promise15Codes() {
        Sentences.of(15, "-2.");
        x = Checks.song(THREE);
        for (int note : NO_NOTE) {
            Checks.due("milliseconds(" + note + ")", x.milliseconds(note), -2);
        }
    }

    public static void main(String[] args) {
        promise10NumberAndBar();
        promise10BodyPrefixAndBehind();
        promise10TiesKeyAndSpeed();
        promise10Neighbours();
        promise10Verdicts();
        promise10Tones();
        promise10Codes();
        promise11WhenItBegins();
        promise11Codes();
        promise12TheLength();
        promise12Codes();
        promise13FromWhom();
        promise13Codes();
        promise14TheTone();
        promise14Codes();
        promise15Cut();
        promise15Codes();
        Sentences.end("BoundsPromises10To15Test");
    }
}
