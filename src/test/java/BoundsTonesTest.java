/**
 * "==== 2." of the terms, sentence by sentence: each bound of a rule where it is just met and where it just isn't.
 * At SPEED 100 a whole is 2400 milliseconds, so that T is 1/32 (75 of them; 1/64 is QUICK by LIMIT 70).
 */
public final class BoundsTonesTest {
    private static final String UPUP = "d4 1/32, c4 1/32, d4 1/32, c4 1/32";
    private static final String LP = "b3 1/32, c4 1/32";
    private static OrnamentsOut x;

    private static void of(String sentence) {
        Sentences.of(Sentences.TONES, sentence);
    }

    private static void song(String text) {
        x = Checks.song(text);
    }

    /** The TONES of a text, and the VERDICTS of one of its NOTES. */
    private static void due(String text, String tones, int note, int prefix, int body, int behind) {
        song(text);
        dueNow(tones, note, prefix, body, behind);
    }

    private static void dueNow(String tones, int note, int prefix, int body, int behind) {
        Checks.dueTones(x, tones);
        Checks.dueVerdicts(x, note, prefix, body, behind);
    }

    private static void dueT(String when, int note, int upper, int lower) {
        Checks.dueFraction("T " + when, x.tone(note, 0), x.tone(note, 1), upper, lower);
    }

    private static void dueNumbers(int what, int... numbers) {
        for (int i = 0; i < numbers.length; i++) {
            Checks.due("note(" + i + ", " + what + ")", x.note(i, what), numbers[i]);
        }
    }

    // ---- T

    private static void milliseconds() {
        of("Of a fraction x of a whole at a SPEED S: MILLISECONDS: x times 240,000 times 100 by (S times PERCENT) (SPEED as it is at the NOTE).");
        song("speed 20;note c4 1/1;speed 400;rest 1/32;speed 60;note c4 1/4;speed 400;tie 1/4;");
        Checks.due("a whole at 20", x.milliseconds(0), 12000);
        Checks.due("1/32 at 400: 18.75", x.milliseconds(1), 18);
        Checks.due("SPEED at the NOTE, not at its tie", x.milliseconds(2), 2000);
        dueT("by SPEED at the NOTE", 2, 1, 32);
        x.terms(5, 25);
        Checks.due("a whole at 20, PERCENT 25", x.milliseconds(0), 48000);
        x.terms(5, 400);
        Checks.due("1/32 at 400, PERCENT 400: 4.6875", x.milliseconds(1), 4);
    }

    private static void quick() {
        of("It is QUICK, if that is below LIMIT.");
        song("note c4 1/32;");
        x.terms(0, 75);
        Checks.due("75 isn't below 75", x.quick(), 0);
        x.terms(0, 76);
        Checks.due("75 is below 76", x.quick(), 1);
        song("speed 101;note c4 1/32;");
        x.terms(0, 75);
        Checks.due("74.26 is below 75", x.quick(), 1);
        x.terms(0, 74);
        Checks.due("74.26 isn't below 74", x.quick(), 0);
    }

    private static void theT() {
        of("T of a NOTE: 1 by TONE, twice as long as long as it is QUICK.");
        song("note c4 1/4;speed 400;note c4 1/4;speed 20;rest 1/4;");
        x.terms(0, 75);
        dueT("of 75 by LIMIT 75", 0, 1, 32);
        x.terms(0, 76);
        dueT("of 75 by LIMIT 76", 0, 1, 16);
        x.terms(0, 150);
        dueT("of 150 by LIMIT 150", 0, 1, 16);
        x.terms(0, 151);
        dueT("of 150 by LIMIT 151", 0, 1, 8);
        x.terms(0, 20);
        int[] tones = {8, 16, 32, 64};
        for (int tone : tones) {
            x.terms(1, tone);
            dueT("not QUICK", 0, 1, tone);
            dueT("of a rest", 2, 1, tone);
        }
        x.terms(0, 250);
        x.terms(5, 400);
        dueT("the longest: 1/1 is 150, 2/1 300", 1, 2, 1);
        x.terms(1, 8);
        dueT("the longest from 1/8", 1, 2, 1);
        x.terms(0, 150);
        dueT("150 by LIMIT 150", 1, 1, 1);
    }

    // ---- neighbours

    private static void upperLetter() {
        of("UPPER of a NOTE: the next letter above (above b: c of the next octave):");
        song("note c4 1/8;note d4 1/8;note e4 1/8;note f4 1/8;note g4 1/8;note a4 1/8;note b4 1/8;note b8 1/8;note b0 1/8;");
        dueNumbers(8, 62, 64, 65, 67, 69, 71, 72, 120, 24);
        song("note b8 1/8 pr;");
        Checks.dueTones(x, "c9 1/32, b8 1/32, c9 1/32, b8 1/32");
        Checks.due("octave 9", x.sounds(0, 4), 9);
        Checks.due("c", x.sounds(0, 3), 0);
    }

    private static void upperBySign() {
        of("by SIGN of up, if told;");
        song("key 2;note d+5 1/8;note d-4 1/8;note c4 1/8 mo up+;note c4 1/8 mo up=;note c4 1/8 mo up-;note c4 1/8 mo down+;");
        // c is c+ by the KEY: 61; d- of this BAR holds for the one without up.
        Checks.due("up+", x.note(2, 8), 63);
        Checks.due("up=", x.note(3, 8), 62);
        Checks.due("up-: 61 isn't above 61", x.note(4, 8), 62);
        Checks.due("not told: d-, not above 61", x.note(5, 8), 62);
        song("note c4 1/8 mo up-;note c4 1/8 mo up=;note c4 1/8 mo up+;");
        dueNumbers(8, 61, 62, 63);
    }

    private static void upperByHold() {
        of("else, if HOLD is 1, as the latest P of that letter and octave in the BAR where the NOTE begins, up to its own P (not those of"
            + " its PREFIX), that had a SIGN told;");
        song("note d+4 1/8;note c4 1/8;note c5 1/8;note d=4 1/8;note c4 1/8;note d-4 1/8;note c4 1/8;note d4 1/8;note c4 1/8;");
        Checks.due("d+4 told", x.note(1, 8), 63);
        Checks.due("of that octave", x.note(2, 8), 74);
        Checks.due("the latest: d=", x.note(4, 8), 62);
        Checks.due("the latest: d-", x.note(6, 8), 61);
        Checks.due("not of the BAR ahead", x.note(8, 8), 62);
        x.terms(3, 0);
        Checks.due("HOLD 0", x.note(1, 8), 62);
        Checks.due("HOLD 0, d-", x.note(6, 8), 62);
        song("note c4 1/8 gr d+4;note c4 1/8;note c4 1/8 ap d-4;note c4 1/8;note d4 1/8;note c4 1/8;");
        dueNumbers(8, 62, 63, 63, 61, 64, 61);
        song("key 2;note d-4 1/8;note d4 1/8;note c=4 1/8;");
        Checks.due("a P without SIGN tells none", x.note(2, 8), 61);
        song("note d+4 1/2;note c4 1/2;tie 1/4;note c4 1/4;");
        Checks.due("where the NOTE begins", x.note(1, 8), 63);
        Checks.due("a BAR that a tie began", x.note(2, 8), 62);
        song("note c4 1/2;note d+4 1/2;");
        Checks.due("not of a later P", x.note(0, 8), 62);
        song("note b+3 1/8;note c4 1/8;");
        Checks.due("LOWER by HOLD across the octave: b+ isn't below c", x.note(1, 9), 59);
    }

    private static void upperByKey() {
        of("else by the KEY as it is at the NOTE;");
        song("note e4 1/8;key 1;note e4 1/8;key -7;note a=4 1/8;key 7;note a=4 1/8;key 0;tie 1/8;");
        dueNumbers(8, 65, 66, 70, 72);
        Checks.due("the KEY of the NOTE, not of its tie", x.note(3, 8), 72);
        // By KEY -7 c is c-, by KEY 7 b is b+: the neighbour is no nearer than 1.
        song("key -7;note b=4 1/8;key 7;note c=5 1/8;");
        Checks.due("c- isn't above b", x.note(0, 8), 72);
        Checks.due("b+ isn't below c", x.note(1, 9), 71);
    }

    private static void upperIsAbove() {
        of("if its number isn't above that of the NOTE, it is one above that.");
        song("note e+4 1/8;note b+4 1/8;note c+4 1/8 mo up-;note e4 1/8 mo up-;note e4 1/8 mo up=;note c4 1/8 mo up-;");
        dueNumbers(8, 66, 73, 62, 66, 66, 62);
        song("note e4 1/8 mo up-;note e4 1/8 mo up=;note c=4 1/8 mo up-;note e-4 1/8 mo up-;");
        Checks.due("f- of e: like", x.note(0, 8), 65);
        Checks.due("f of e: one above", x.note(1, 8), 65);
        Checks.due("d- of c: one above", x.note(2, 8), 61);
        Checks.due("f- of e-: one above", x.note(3, 8), 64);
        song("note e+4 1/8 pr up-;");
        Checks.dueTones(x, "f+4 1/32, e+4 1/32, f+4 1/32, e+4 1/32");
    }

    private static void lower() {
        of("LOWER: the next letter below likewise, by down; one below.");
        song("note c4 1/8;note d4 1/8;note e4 1/8;note f4 1/8;note g4 1/8;note a4 1/8;note b4 1/8;note c0 1/8;note c8 1/8;");
        dueNumbers(9, 59, 60, 62, 64, 65, 67, 69, 11, 107);
        song("note d4 1/8 mo down+;note d4 1/8 mo down=;note d4 1/8 mo down-;note d4 1/8 mo up-;");
        dueNumbers(9, 61, 60, 59, 60);
        song("note f4 1/8 mo down+;note f-4 1/8;note c-4 1/8;note c4 1/8 mo down+;note d-4 1/8 mo down+;note g4 1/8 mo down+;");
        dueNumbers(9, 64, 63, 58, 58, 60, 66);
        song("note c+4 1/8;note d4 1/8;note d5 1/8;note c-4 1/8;note d4 1/8;note d4 1/8 gr c+4;note e4 1/8;note c4 1/8;note d4 1/8;");
        Checks.due("by HOLD", x.note(1, 9), 61);
        Checks.due("of that octave", x.note(2, 9), 72);
        Checks.due("the latest", x.note(4, 9), 59);
        Checks.due("not of its own PREFIX", x.note(5, 9), 59);
        Checks.due("not of the BAR ahead", x.note(8, 9), 60);
        x.terms(3, 0);
        Checks.due("HOLD 0", x.note(1, 9), 60);
        song("note c0 1/8 mo;");
        Checks.dueTones(x, "c0 1/32, b-1 1/32, c0 1/16");
        song("note c-0 1/8 mo;");
        Checks.dueTones(x, "c-0 1/32, b--1 1/32, c-0 1/16");
        song("key -1;note c4 1/8;key 7;note d=4 1/8;");
        dueNumbers(9, 58, 61);
    }

    private static void low() {
        of("LOW: LOWER of LOWER's letter (by HOLD, KEY alone), not above LOWER less 1 likewise.");
        song("note c4 1/8;note d4 1/8;note e4 1/8;note f4 1/8;note g4 1/8;note a4 1/8;note b4 1/8;note c0 1/8;note d0 1/8;");
        dueNumbers(10, 57, 59, 60, 62, 64, 65, 67, 9, 11);
        song("note e4 1/8 mo down-;note e4 1/8 mo down+;");
        Checks.due("down isn't for LOW", x.note(0, 10), 60);
        Checks.due("nor down+", x.note(1, 10), 60);
        song("note g4 1/8 mo down-;note d4 1/8 mo down-;note g-4 1/8 mo down-;");
        Checks.due("e isn't below f-", x.note(0, 10), 63);
        Checks.due("b isn't below c-", x.note(1, 10), 58);
        song("note c+4 1/8;note e4 1/8;note e4 1/8 mo down-;note c-4 1/8;note e4 1/8;note e5 1/8;note e4 1/8 gr c+4;rest 1/8;note e4 1/8;");
        Checks.due("by HOLD", x.note(1, 10), 61);
        Checks.due("by HOLD, not below d-: one below", x.note(2, 10), 60);
        Checks.due("the latest", x.note(4, 10), 59);
        Checks.due("of that octave", x.note(5, 10), 72);
        Checks.due("not of its own PREFIX", x.note(6, 10), 59);
        Checks.due("not of the BAR ahead", x.note(8, 10), 60);
        x.terms(3, 0);
        Checks.due("HOLD 0", x.note(1, 10), 60);
        song("key 2;note e4 1/8;key -6;note e=4 1/8;");
        dueNumbers(10, 61, 59);
        song("note c-0 1/8 sl;");
        Checks.dueTones(x, "a-1 1/32, b--1 1/32, c-0 1/16");
    }

    // ---- one behind the other

    private static void oneBehindTheOther() {
        of("NOTES are written out one behind the other as TONES; L: a NOTE's length with its ties.");
        due("note c4 1/32 mo;tie 1/32;tie 1/32;rest 1/8;note d4 1/4;", "c4 1/32, b3 1/32, c4 1/32, d4 1/4", 0, 0, 1, 0);
        Checks.dueFraction("L", x.length(0, 0), x.length(0, 1), 3, 32);
        Checks.dueFraction("behind the rest", x.when(3, 0, 0), x.when(3, 0, 1), 7, 32);
        due("rest 1/4;", "", 0, 0, 0, 0);
    }

    private static void last() {
        of("LAST: the number of the latest TONE, if it ends where the next one would begin (none behind a rest, at first; for BODY the latest"
            + " TONE of its own PREFIX, if it played any).");
        due("note c4 1/8 pr;", UPUP, 0, 0, 1, 0);
        due("note d4 1/8;note c4 1/8 pr;", "d4 1/8, c4 1/32, d4 1/32, c4 1/16", 1, 0, 1, 0);
        due("note d4 1/8;rest 1/32;note c4 1/8 pr;", "d4 1/8, " + UPUP, 2, 0, 1, 0);
        due("note d4 1/1;note c4 1/8 pr;", "d4 1/1, c4 1/32, d4 1/32, c4 1/16", 1, 0, 1, 0);
        due("note c4 1/8 an;note d4 1/32;note c4 1/8 pr;", "c4 3/32, d4 1/32, d4 1/32, c4 1/32, d4 1/32, c4 1/16", 2, 0, 1, 0);
        due("note e4 1/8 gr d4;note c4 1/8 pr;", "d4 1/32, e4 3/32, " + UPUP, 1, 0, 1, 0);
        due("note c4 1/8 gr d4 pr;", "d4 1/32, c4 1/32, d4 1/32, c4 1/32", 0, 1, 1, 0);
        due("note c4 5/32 gr e4 pr;", "e4 1/32, " + UPUP, 0, 1, 1, 0);
        due("note d4 1/8;note c4 1/8 gr e4 pr;", "d4 3/32, e4 1/32, " + UPUP, 1, 1, 1, 0);
        due("note d4 1/32;note c4 3/32 ap e4 pr;", "d4 1/32, e4 1/16, c4 1/32", 1, 1, 3, 0);
        due("note d4 1/32;note c4 3/32 gr e4 e4 pr;", "d4 1/32, e4 1/32, c4 1/16", 1, 2, 3, 0);
    }

    // ---- PREFIX

    private static void gracesAhead() {
        of("PREFIX: gr of m P: if AHEAD is 1, and LAST is there (the NOTE ahead), and m times T is no more than half of that TONE: it is shorter"
            + " by m times T, GRACES, T each, are in that time (BORROWED from the one ahead).");
        String[] graces = {"e4", "f4", "g4", "a4"};
        for (int m = 1; m <= 4; m++) {
            StringBuilder gr = new StringBuilder();
            StringBuilder tones = new StringBuilder();
            for (int i = 0; i < m; i++) {
                gr.append(' ').append(graces[i]);
                tones.append(graces[i]).append(" 1/32, ");
            }
            song("note c4 " + 2 * m + "/32;note d4 1/4 gr" + gr + ";");
            Checks.due("just half of it: from the one ahead", x.borrowed(1, 1, 0) * 32, m * x.borrowed(1, 1, 1));
            Checks.due("not of itself", x.borrowed(1, 0, 0), 0);
            Checks.dueTones(x, "c4 " + (m == 4 ? "1/8" : m == 2 ? "1/16" : m + "/32") + ", " + tones + "d4 1/4");
            song("note c4 " + (2 * m - 1) + "/32;note d4 1/2 gr" + gr + ";");
            Checks.due("more than half of it: not from the one ahead", x.borrowed(1, 1, 0), 0);
            Checks.due("but of itself", x.borrowed(1, 0, 0) * 32, m * x.borrowed(1, 0, 1));
        }
        song("note c4 1/4;note d4 1/4 gr e4;");
        x.terms(2, 0);
        Checks.dueTones(x, "c4 1/4, e4 1/32, d4 7/32");
        due("note d4 1/4 gr e4;", "e4 1/32, d4 7/32", 0, 1, 0, 0);
        due("note c4 1/4;rest 1/32;note d4 1/4 gr e4;", "c4 1/4, e4 1/32, d4 7/32", 2, 1, 0, 0);
        // That TONE is the latest one, not all of the NOTE ahead.
        due("note c4 1/8 mo;note d4 1/4 gr e4;", "c4 1/32, b3 1/32, c4 1/32, e4 1/32, d4 1/4", 1, 1, 0, 0);
        due("note c4 3/32 mo;note d4 1/4 gr e4;", "c4 1/32, b3 1/32, c4 1/32, e4 1/32, d4 7/32", 1, 1, 0, 0);
        // T is that of the NOTE with the GRACES.
        due("speed 400;note c4 1/8;speed 100;note d4 1/4 gr e4 f4;", "c4 1/16, e4 1/32, f4 1/32, d4 1/4", 1, 1, 0, 0);
        due("note c4 1/4;speed 400;note d4 1/2 gr e4;", "c4 1/8, e4 1/8, d4 1/2", 1, 1, 0, 0);
        due("note c4 7/32;speed 400;note d4 1/2 gr e4;", "c4 7/32, e4 1/8, d4 3/8", 1, 1, 0, 0);
        // A GRACE may begin in the BAR ahead.
        due("note c4 1/1;note d4 1/32 gr e4;", "c4 31/32, e4 1/32, d4 1/32", 1, 1, 0, 0);
    }

    private static void gracesOnIt() {
        of("Else they take m times T of the NOTE itself, if that is no more than half of L; else the first of them are left away till it is"
            + " (LESS; none left: AWAY).");
        due("note c4 1/4 gr d4 e4 f4 g4;", "d4 1/32, e4 1/32, f4 1/32, g4 1/32, c4 1/8", 0, 1, 0, 0);
        due("note c4 7/32 gr d4 e4 f4 g4;", "e4 1/32, f4 1/32, g4 1/32, c4 1/8", 0, 2, 0, 0);
        due("note c4 6/32 gr d4 e4 f4 g4;", "e4 1/32, f4 1/32, g4 1/32, c4 3/32", 0, 2, 0, 0);
        due("note c4 5/32 gr d4 e4 f4 g4;", "f4 1/32, g4 1/32, c4 3/32", 0, 2, 0, 0);
        due("note c4 3/32 gr d4 e4 f4 g4;", "g4 1/32, c4 1/16", 0, 2, 0, 0);
        due("note c4 2/32 gr d4 e4 f4 g4;", "g4 1/32, c4 1/32", 0, 2, 0, 0);
        due("note c4 1/32 gr d4 e4 f4 g4;", "c4 1/32", 0, 3, 0, 0);
        due("note c4 1/16 gr d4;", "d4 1/32, c4 1/32", 0, 1, 0, 0);
        due("note c4 1/32 gr d4;", "c4 1/32", 0, 3, 0, 0);
        due("note c4 1/32 gr d4;tie 1/32;", "d4 1/32, c4 1/32", 0, 1, 0, 0);
    }

    private static void appoggiatura() {
        of("ap: it takes half of L (two thirds, if the upper number of L in lowest terms is 3), if that isn't QUICK (else AWAY).");
        due("note c4 1/4 ap d4;", "d4 1/8, c4 1/8", 0, 1, 0, 0);
        due("note c4 3/4 ap d4;", "d4 1/2, c4 1/4", 0, 1, 0, 0);
        due("note c4 6/8 ap d4;", "d4 1/2, c4 1/4", 0, 1, 0, 0);
        due("note c4 3/32 ap d4;", "d4 1/16, c4 1/32", 0, 1, 0, 0);
        due("note c4 9/32 ap d4;", "d4 9/64, c4 9/64", 0, 1, 0, 0);
        due("meter 4/1;note c4 3/1 ap d4;", "d4 2/1, c4 1/1", 0, 1, 0, 0);
        due("meter 12/8;note c4 12/8 ap d4;", "d4 1/1, c4 1/2", 0, 1, 0, 0);
        due("meter 6/1;note c4 6/1 ap d4;", "d4 3/1, c4 3/1", 0, 1, 0, 0);
        due("note c4 1/4 ap d4;tie 1/8;", "d4 1/4, c4 1/8", 0, 1, 0, 0);
        due("note c4 3/8 ap d4;tie 1/8;", "d4 1/4, c4 1/4", 0, 1, 0, 0);
        song("note c4 1/16 ap d4;");
        x.terms(0, 75);
        dueNow("d4 1/32, c4 1/32", 0, 1, 0, 0);
        x.terms(0, 76);
        dueNow("c4 1/16", 0, 3, 0, 0);
        song("note c4 3/32 ap d4;");
        x.terms(0, 150);
        dueNow("d4 1/16, c4 1/32", 0, 1, 0, 0);
        x.terms(0, 151);
        dueNow("c4 3/32", 0, 3, 0, 0);
    }

    private static void slide() {
        of("sl: LOW, LOWER, T each, if both are no more than half of L; else LOWER alone, if T is (LESS); else AWAY.");
        due("note c4 4/32 sl;", "a3 1/32, b3 1/32, c4 1/16", 0, 1, 0, 0);
        due("note c4 3/32 sl;", "b3 1/32, c4 1/16", 0, 2, 0, 0);
        due("note c4 2/32 sl;", "b3 1/32, c4 1/32", 0, 2, 0, 0);
        due("note c4 1/32 sl;", "c4 1/32", 0, 3, 0, 0);
        // It never takes of the one ahead.
        due("note d4 1/2;note c4 4/32 sl;", "d4 1/2, a3 1/32, b3 1/32, c4 1/16", 1, 1, 0, 0);
    }

    private static void whatIsLeft() {
        of("R: what is left of L. BORROWED from itself: what PREFIX took of L.");
        due("note c4 4/32 gr d4 mo;", "d4 1/32, c4 1/32, b3 1/32, c4 1/32", 0, 1, 1, 0);
        Checks.dueFraction("gr took", x.borrowed(0, 0, 0), x.borrowed(0, 0, 1), 1, 32);
        due("note c4 5/32 sl mo;", "a3 1/32, " + LP + ", b3 1/32, c4 1/32", 0, 1, 1, 0);
        Checks.dueFraction("sl took", x.borrowed(0, 0, 0), x.borrowed(0, 0, 1), 1, 16);
        due("note c4 4/32 sl mo;", "a3 1/32, b3 1/32, c4 1/16", 0, 1, 3, 0);
        due("note c4 6/32 ap d4 mo;", "d4 1/8, c4 1/16", 0, 1, 3, 0);
        Checks.dueFraction("ap took two thirds", x.borrowed(0, 0, 0), x.borrowed(0, 0, 1), 1, 8);
        due("note c4 1/32 sl;", "c4 1/32", 0, 3, 0, 0);
        Checks.dueFraction("AWAY took none", x.borrowed(0, 0, 0), x.borrowed(0, 0, 1), 0, 1);
    }

    // ---- BODY

    private static void mordent() {
        of("BODY, on R, PRINCIPAL being the NOTE's P: mo: PRINCIPAL, LOWER, T each, PRINCIPAL, if 3 T are no more than R; else AWAY.");
        due("note c4 3/32 mo;", "c4 1/32, " + LP, 0, 0, 1, 0);
        due("note c4 2/32 mo;", "c4 1/16", 0, 0, 3, 0);
        due("note c4 1/1 mo;", "c4 1/32, b3 1/32, c4 15/16", 0, 0, 1, 0);
    }

    private static void behindUpper() {
        of("BEHIND UPPER: LAST is UPPER, or STYLE is 1.");
        due("note d4 1/8;note c4 1/8 pr;", "d4 1/8, c4 1/32, d4 1/32, c4 1/16", 1, 0, 1, 0);
        due("note e-4 1/8;note c4 1/8 pr;", "e-4 1/8, " + UPUP, 1, 0, 1, 0);
        due("note d+4 1/8;note c4 1/8 pr;", "d+4 1/8, c4 1/32, d+4 1/32, c4 1/16", 1, 0, 1, 0);
        due("note d+4 1/8;note c4 1/8 pr up=;", "d+4 1/8, " + UPUP, 1, 0, 1, 0);
        due("note c+4 1/8;note c=4 1/8 pr up-;", "c+4 1/8, c4 1/32, d-4 1/32, c4 1/16", 1, 0, 1, 0);
        due("note d3 1/8;note c4 1/8 pr;", "d3 1/8, " + UPUP, 1, 0, 1, 0);
        song("note c4 1/8 pr;");
        dueNow(UPUP, 0, 0, 1, 0);
        x.terms(6, 1);
        dueNow("c4 1/32, d4 1/32, c4 1/16", 0, 0, 1, 0);
    }

    private static void prall() {
        of("pr: if it is BEHIND UPPER: PRINCIPAL, UPPER, T each, PRINCIPAL; else UPPER, PRINCIPAL, UPPER, T each, PRINCIPAL, if 4 T are no more"
            + " than R, else as if it were BEHIND UPPER (LESS); that, if 3 T are no more than R, else AWAY.");
        due("note c4 5/32 pr;", "d4 1/32, c4 1/32, d4 1/32, c4 1/16", 0, 0, 1, 0);
        due("note c4 4/32 pr;", UPUP, 0, 0, 1, 0);
        due("note c4 3/32 pr;", "c4 1/32, d4 1/32, c4 1/32", 0, 0, 2, 0);
        due("note c4 2/32 pr;", "c4 1/16", 0, 0, 3, 0);
        due("note d4 1/8;note c4 3/32 pr;", "d4 1/8, c4 1/32, d4 1/32, c4 1/32", 1, 0, 1, 0);
        due("note d4 1/8;note c4 2/32 pr;", "d4 1/8, c4 1/16", 1, 0, 3, 0);
    }

    private static void trill() {
        of("tr: UPPER and PRINCIPAL by turns, T each, from UPPER on (from PRINCIPAL, if it is BEHIND UPPER), as many as fit into R, 64 at most,"
            + " so that PRINCIPAL is the last one (which is as long as is left), 4 at least (3 from PRINCIPAL);");
        due("note c4 4/32 tr;", UPUP, 0, 0, 1, 0);
        due("note c4 5/32 tr;", "d4 1/32, c4 1/32, d4 1/32, c4 1/16", 0, 0, 1, 0);
        due("note c4 6/32 tr;", UPUP + ", d4 1/32, c4 1/32", 0, 0, 1, 0);
        due("note d4 1/8;note c4 3/32 tr;", "d4 1/8, c4 1/32, d4 1/32, c4 1/32", 1, 0, 1, 0);
        due("note d4 1/8;note c4 4/32 tr;", "d4 1/8, c4 1/32, d4 1/32, c4 1/16", 1, 0, 1, 0);
        due("note d4 1/8;note c4 5/32 tr;", "d4 1/8, c4 1/32, d4 1/32, c4 1/32, d4 1/32, c4 1/32", 1, 0, 1, 0);
        int[][] dueTurns = {{61, 60, 61}, {62, 62, 61}, {63, 62, 63}, {64, 64, 63}, {65, 64, 63}, {66, 64, 63}, {67, 64, 63}};
        for (int[] row : dueTurns) {
            song("meter 4/1;note c4 1/1 tr;tie 25/32;tie " + (row[0] - 57) + "/32;");
            Checks.due("turns in " + row[0] + " T from UPPER", x.count(1), row[1]);
            Checks.due("PRINCIPAL is the last", x.sounds(row[1] - 1, 1), 0);
            Checks.due("UPPER is the first", x.sounds(0, 1), 1);
            x.terms(6, 1);
            Checks.due("turns in " + row[0] + " T from PRINCIPAL", x.count(1), row[2]);
            Checks.due("PRINCIPAL is the last, too", x.sounds(row[2] - 1, 1), 0);
            Checks.due("PRINCIPAL is the first", x.sounds(0, 1), 0);
        }
        song("meter 4/1;note c4 4/1 tr;");
        Checks.dueFraction("the 64th is as long as is left", x.when(63, 1, 0), x.when(63, 1, 1), 65, 32);
    }

    private static void trillAsPrall() {
        of("if not so many fit: as pr (LESS, if that isn't AWAY, whether that pr is LESS or not; nb is AWAY then).");
        due("note c4 3/32 tr;", "c4 1/32, d4 1/32, c4 1/32", 0, 0, 2, 0);
        due("note c4 2/32 tr;", "c4 1/16", 0, 0, 3, 0);
        due("note c4 3/32 tr nb;", "c4 1/32, d4 1/32, c4 1/32", 0, 0, 2, 3);
        due("note c4 2/32 tr nb;", "c4 1/16", 0, 0, 3, 3);
        due("note d4 1/8;note c4 2/32 tr nb;", "d4 1/8, c4 1/16", 1, 0, 3, 3);
        Checks.due("VERDICTS 3: tr and nb", x.count(5), 2);
    }

    private static void afterbeat() {
        of("tr with AFTERBEAT (nb; or AFTER is 1, and the next NOTE is a note, begins where this one ends, and its number is UPPER's): so in R"
            + " less 2 T, then LOWER, PRINCIPAL, T each;");
        due("note c4 6/32 tr nb;", UPUP + ", " + LP, 0, 0, 1, 1);
        due("note c4 7/32 tr nb;", "d4 1/32, c4 1/32, d4 1/32, c4 1/16, " + LP, 0, 0, 1, 1);
        due("note d4 1/8;note c4 5/32 tr nb;", "d4 1/8, c4 1/32, d4 1/32, c4 1/32, " + LP, 1, 0, 1, 1);
        String without = UPUP + ", d4 1/32, c4 1/32";
        String[][] behind = {{"note d4 1/8;", "d4 1/8"}, {"note d+4 1/8;", "d+4 1/8"}, {"note d5 1/8;", "d5 1/8"}, {"rest 1/8;", ""}, {"", ""}};
        for (int i = 0; i < behind.length; i++) {
            String then = behind[i][1].isEmpty() ? "" : ", " + behind[i][1];
            due("note c4 6/32 tr;" + behind[i][0], without + then, 0, 0, 1, 0);
            x.terms(4, 1);
            dueNow((i == 0 ? UPUP + ", " + LP : without) + then, 0, 0, 1, 0);
        }
        song("note c4 6/32 tr up+;rest 1/32;note d+4 1/8;");
        x.terms(4, 1);
        Checks.due("a rest between", x.sounds(4, 1), 1);
        // AFTER needs the number alone, not the letter.
        song("note c4 6/32 tr up+;note e-4 1/8;");
        x.terms(4, 1);
        Checks.due("e- has the number of d+", x.sounds(4, 1), 2);
        song("meter 5/1;note c4 5/1 tr nb;");
        Checks.due("64 turns and 2", x.count(1), 66);
        Checks.dueFraction("the 64th turn", x.when(63, 1, 0), x.when(63, 1, 1), 95, 32);
        Checks.dueFraction("the last TONE", x.when(65, 1, 0), x.when(65, 1, 1), 1, 32);
    }

    private static void withoutAfterbeat() {
        of("if not so many fit into that: without AFTERBEAT (of nb: nb is AWAY).");
        due("note c4 5/32 tr nb;", "d4 1/32, c4 1/32, d4 1/32, c4 1/16", 0, 0, 1, 3);
        due("note c4 4/32 tr nb;", UPUP, 0, 0, 1, 3);
        due("note c4 6/32 tr nb;rest 1/32;note c4 5/32 tr nb;", UPUP + ", " + LP + ", d4 1/32, c4 1/32, d4 1/32, c4 1/16", 2, 0, 1, 3);
        due("note c4 6/32 dc nb;rest 1/32;note c4 6/32 tr nb;", LP + ", " + UPUP + ", " + UPUP + ", " + LP, 2, 0, 1, 1);
        Checks.dueVerdicts(x, 0, 0, 1, 3);
        due("note d4 1/8;note c4 4/32 tr nb;", "d4 1/8, c4 1/32, d4 1/32, c4 1/16", 1, 0, 1, 3);
        song("note c4 5/32 tr;note d4 1/8;");
        x.terms(4, 1);
        dueNow("d4 1/32, c4 1/32, d4 1/32, c4 1/16, d4 1/8", 0, 0, 1, 0);
    }

    private static void turn() {
        of("tu: UPPER, PRINCIPAL, LOWER, T each, PRINCIPAL, if 4 T are no more than R; else all four a quarter of R each, if that isn't QUICK"
            + " (as told, too); else AWAY.");
        due("note c4 5/32 tu;", "d4 1/32, c4 1/32, b3 1/32, c4 1/16", 0, 0, 1, 0);
        due("note c4 4/32 tu;", "d4 1/32, c4 1/32, " + LP, 0, 0, 1, 0);
        due("note c4 3/32 tu;", "c4 3/32", 0, 0, 3, 0);
        // T is 1/16, since 1/32 is 75; a quarter of 7/32 is 131.25, of 1/8 is 75.
        song("note c4 7/32 tu;");
        x.terms(0, 131);
        dueNow("d4 7/128, c4 7/128, b3 7/128, c4 7/128", 0, 0, 1, 0);
        x.terms(0, 132);
        dueNow("c4 7/32", 0, 0, 3, 0);
        song("note c4 1/8 tu;");
        x.terms(1, 16);
        x.terms(0, 75);
        dueNow("d4 1/32, c4 1/32, " + LP, 0, 0, 1, 0);
        x.terms(0, 76);
        dueNow("c4 1/8", 0, 0, 3, 0);
    }

    private static void invertedTurn() {
        of("it: likewise with LOWER first, then PRINCIPAL, UPPER, PRINCIPAL.");
        due("note c4 5/32 it;", LP + ", d4 1/32, c4 1/16", 0, 0, 1, 0);
        due("note c4 4/32 it;", LP + ", d4 1/32, c4 1/32", 0, 0, 1, 0);
        due("note c4 3/32 it;", "c4 3/32", 0, 0, 3, 0);
        song("note c4 7/32 it;");
        x.terms(0, 131);
        dueNow("b3 7/128, c4 7/128, d4 7/128, c4 7/128", 0, 0, 1, 0);
        x.terms(0, 132);
        dueNow("c4 7/32", 0, 0, 3, 0);
    }

    private static void delayedTurn() {
        of("dt: PRINCIPAL half of R, then UPPER, PRINCIPAL, LOWER, PRINCIPAL, an eighth of R each, if that isn't QUICK; else as tu (LESS, if that"
            + " isn't AWAY).");
        song("note c4 1/4 dt;");
        x.terms(0, 75);
        dueNow("c4 1/8, d4 1/32, c4 1/32, " + LP, 0, 0, 1, 0);
        x.terms(0, 76);
        dueNow("d4 1/16, c4 1/16, b3 1/16, c4 1/16", 0, 0, 2, 0);
        due("note c4 1/8 dt;", "d4 1/32, c4 1/32, " + LP, 0, 0, 2, 0);
        due("note c4 3/32 dt;", "c4 3/32", 0, 0, 3, 0);
        song("note c4 7/32 dt;");
        x.terms(0, 131);
        dueNow("d4 7/128, c4 7/128, b3 7/128, c4 7/128", 0, 0, 2, 0);
        x.terms(0, 132);
        dueNow("c4 7/32", 0, 0, 3, 0);
        song("speed 20;note c4 1/32 ap d4 dt;");
        x.terms(0, 23);
        dueNow("d4 1/64, c4 1/128, d4 1/512, c4 1/512, b3 1/512, c4 1/512", 0, 1, 1, 0);
    }

    private static void longMordent() {
        of("lm: PRINCIPAL, LOWER, PRINCIPAL, LOWER, T each, PRINCIPAL, if 5 T are no more than R; else as mo (LESS, if that isn't AWAY).");
        due("note c4 6/32 lm;", "c4 1/32, " + LP + ", b3 1/32, c4 1/16", 0, 0, 1, 0);
        due("note c4 5/32 lm;", "c4 1/32, " + LP + ", " + LP, 0, 0, 1, 0);
        due("note c4 4/32 lm;", "c4 1/32, b3 1/32, c4 1/16", 0, 0, 2, 0);
        due("note c4 3/32 lm;", "c4 1/32, " + LP, 0, 0, 2, 0);
        due("note c4 2/32 lm;", "c4 1/16", 0, 0, 3, 0);
    }

    private static void cadence() {
        of("dc: LOWER, PRINCIPAL, T each, then as tr in R less 2 T (LAST being PRINCIPAL then), if so many turns fit in there (AFTERBEAT"
            + " likewise); else as tr in R (LESS, if that isn't AWAY).");
        due("note c4 7/32 dc;", LP + ", d4 1/32, c4 1/32, d4 1/32, c4 1/16", 0, 0, 1, 0);
        due("note c4 6/32 dc;", LP + ", " + UPUP, 0, 0, 1, 0);
        due("note c4 5/32 dc;", "d4 1/32, c4 1/32, d4 1/32, c4 1/16", 0, 0, 2, 0);
        due("note c4 4/32 dc;", UPUP, 0, 0, 2, 0);
        due("note c4 3/32 dc;", "c4 1/32, d4 1/32, c4 1/32", 0, 0, 2, 0);
        due("note c4 2/32 dc;", "c4 1/16", 0, 0, 3, 0);
        // LAST is UPPER ahead of dc, but PRINCIPAL ahead of its turns.
        due("note d4 1/8;note c4 6/32 dc;", "d4 1/8, " + LP + ", " + UPUP, 1, 0, 1, 0);
        due("note d4 1/8;note c4 5/32 dc;", "d4 1/8, c4 1/32, d4 1/32, c4 1/32, d4 1/32, c4 1/32", 1, 0, 2, 0);
        due("note d4 1/8;note c4 3/32 dc;", "d4 1/8, c4 1/32, d4 1/32, c4 1/32", 1, 0, 2, 0);
        song("note c4 5/32 dc;");
        x.terms(6, 1);
        dueNow(LP + ", c4 1/32, d4 1/32, c4 1/32", 0, 0, 1, 0);
        song("note c4 4/32 dc;");
        x.terms(6, 1);
        dueNow("c4 1/32, d4 1/32, c4 1/16", 0, 0, 2, 0);
        due("note c4 8/32 dc nb;", LP + ", " + UPUP + ", " + LP, 0, 0, 1, 1);
        due("note c4 7/32 dc nb;", LP + ", d4 1/32, c4 1/32, d4 1/32, c4 1/16", 0, 0, 1, 3);
        due("note c4 5/32 dc nb;", "d4 1/32, c4 1/32, d4 1/32, c4 1/16", 0, 0, 2, 3);
        due("note c4 3/32 dc nb;", "c4 1/32, d4 1/32, c4 1/32", 0, 0, 2, 3);
        due("note c4 2/32 dc nb;", "c4 1/16", 0, 0, 3, 3);
        due("note d4 1/8;note c4 5/32 dc nb;", "d4 1/8, c4 1/32, d4 1/32, c4 1/32, " + LP, 1, 0, 2, 1);
        song("note c4 8/32 dc;note d4 1/8;");
        x.terms(4, 1);
        dueNow(LP + ", " + UPUP + ", " + LP + ", d4 1/8", 0, 0, 1, 0);
        song("meter 5/1;note c4 5/1 dc nb;");
        Checks.due("2, 64 turns and 2", x.count(1), 68);
    }

    private static void theLastPrincipal() {
        of("The last PRINCIPAL is always as long as is left of R. Without BODY (or AWAY): PRINCIPAL for R. (R is never 0.)");
        due("note c4 1/4 gr d4;", "d4 1/32, c4 7/32", 0, 1, 0, 0);
        due("note c4 2/32 gr d4 mo;", "d4 1/32, c4 1/32", 0, 1, 3, 0);
        due("note c4 1/32 gr d4 mo;", "c4 1/32", 0, 3, 3, 0);
        due("note c4 1/1 lm;", "c4 1/32, " + LP + ", b3 1/32, c4 7/8", 0, 0, 1, 0);
        due("note c4 1/1 it;", LP + ", d4 1/32, c4 29/32", 0, 0, 1, 0);
        due("note c4 1/1 pr;", "d4 1/32, c4 1/32, d4 1/32, c4 29/32", 0, 0, 1, 0);
    }

    // ---- behind it

    private static void anticipation() {
        of("an: if the next NOTE is a note, begins where this one ends, and T is no more than half of the latest TONE: that is shorter by T,"
            + " a TONE of T with the next NOTE's letter, octave, number comes behind it (KIND 5); else AWAY.");
        due("note c4 2/32 an;note g-5 1/4;", "c4 1/32, g-5 1/32, g-5 1/4", 0, 0, 0, 1);
        Checks.due("KIND", x.sounds(1, 1), 5);
        Checks.due("NOTE", x.sounds(1, 2), 0);
        Checks.due("letter", x.sounds(1, 3), 4);
        Checks.due("octave", x.sounds(1, 4), 5);
        Checks.due("number", x.sounds(1, 0), 78);
        due("note c4 1/32 an;note g4 1/4;", "c4 1/32, g4 1/4", 0, 0, 0, 3);
        due("note c4 1/4 an;rest 1/4;", "c4 1/4", 0, 0, 0, 3);
        due("note c4 1/4 an;rest 1/32;note g4 1/4;", "c4 1/4, g4 1/4", 0, 0, 0, 3);
        due("note c4 1/4 an;", "c4 1/4", 0, 0, 0, 3);
        due("note c4 4/32 mo an;note g4 1/4;", "c4 1/32, " + LP + ", g4 1/32, g4 1/4", 0, 0, 1, 1);
        due("note c4 3/32 mo an;note g4 1/4;", "c4 1/32, " + LP + ", g4 1/4", 0, 0, 1, 3);
        // The AFTERBEAT by AFTER leaves no TONE that is long enough.
        song("note c4 8/32 tr an;note d4 1/4;");
        Checks.dueVerdicts(x, 0, 0, 1, 3);
        song("note c4 9/32 tr an;note d4 1/4;");
        Checks.dueVerdicts(x, 0, 0, 1, 1);
        x.terms(4, 1);
        Checks.dueVerdicts(x, 0, 0, 1, 3);
        // The next NOTE's P, not its first TONE.
        due("note c4 1/8 an;note e4 1/8 pr;", "c4 3/32, e4 1/32, f4 1/32, e4 1/32, f4 1/32, e4 1/32", 0, 0, 0, 1);
        due("note c4 1/8 an;note e4 1/8 gr d4;", "c4 3/32, e4 1/32, d4 1/32, e4 3/32", 1, 1, 0, 0);
    }

    private static void verdicts() {
        of("VERDICT of PREFIX, BODY, nb or an of a NOTE: 0 none is told, 1 as told, 2 LESS, 3 AWAY.");
        due("note c4 1/4;", "c4 1/4", 0, 0, 0, 0);
        due("rest 1/4;", "", 0, 0, 0, 0);
        due("note c4 8/32 gr e4 tr nb;", "e4 1/32, d4 1/32, c4 1/32, d4 1/32, c4 1/16, " + LP, 0, 1, 1, 1);
        due("note c4 4/32 gr e4 f4 g4 pr an;", "f4 1/32, g4 1/32, c4 1/16", 0, 2, 3, 3);
        due("note c4 5/32 gr e4 f4 g4 pr an;", "f4 1/32, g4 1/32, c4 1/32, d4 1/32, c4 1/32", 0, 2, 2, 3);
        Checks.due("VERDICTS 2", x.count(4), 2);
        Checks.due("VERDICTS 3", x.count(5), 1);
        song("note c4 1/32;note c4 1/32 sl mo an;");
        Checks.dueVerdicts(x, 1, 3, 3, 3);
        Checks.text(x, "note c4 1/32;rest 1/32;");
        Checks.dueVerdicts(x, 1, 0, 0, 0);
    }

    private static void kinds() {
        of("TONES have KINDS: 0 PRINCIPAL, 1 UPPER, 2 LOWER, 3 GRACE (of gr, ap), 4 LOW, 5 of an. Two TONES one behind the other of like"
            + " number are two.");
        song("note c4 1/4 gr e4 tu an;note c4 1/4 ap c4;note c4 1/4 sl;");
        int[] kinds = {3, 1, 0, 2, 0, 5, 3, 0, 4, 2, 0};
        for (int k = 0; k < kinds.length; k++) {
            Checks.due("KIND of " + k, x.sounds(k, 1), kinds[k]);
        }
        Checks.due("TONES", x.count(1), kinds.length);
        due("note c4 1/4;note c4 1/4;note b+3 1/4;", "c4 1/4, c4 1/4, b+3 1/4", 0, 0, 0, 0);
        due("note c4 1/4 ap c4;", "c4 1/8, c4 1/8", 0, 1, 0, 0);
    }

    public static void main(String[] args) {
        milliseconds();
        quick();
        theT();
        upperLetter();
        upperBySign();
        upperByHold();
        upperByKey();
        upperIsAbove();
        lower();
        low();
        oneBehindTheOther();
        last();
        gracesAhead();
        gracesOnIt();
        appoggiatura();
        slide();
        whatIsLeft();
        mordent();
        behindUpper();
        prall();
        trill();
        trillAsPrall();
        afterbeat();
        withoutAfterbeat();
        turn();
        invertedTurn();
        delayedTurn();
        longMordent();
        cadence();
        theLastPrincipal();
        anticipation();
        verdicts();
        kinds();
        Sentences.end("BoundsTonesTest");
    }
}
