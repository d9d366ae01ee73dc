/** Promises 16 to 20, sentence by sentence: sounds, when, called, at, bar. */
public final class BoundsPromises16To20Test {
    private static final int LEAST = Integer.MIN_VALUE;
    private static final int GREATEST = Integer.MAX_VALUE;

    private static OrnamentsOut x;

    private static void dueSounds(int k, int... due) {
        for (int what = 0; what < due.length; what++) {
            Checks.due("sounds(" + k + ", " + what + ")", x.sounds(k, what), due[what]);
        }
    }

    private static void dueWhen(int k, int upper, int lower, int longUpper, int longLower) {
        Checks.dueFraction("TONE " + k + " begins", x.when(k, 0, 0), x.when(k, 0, 1), upper, lower);
        Checks.dueFraction("TONE " + k + " is long", x.when(k, 1, 0), x.when(k, 1, 1), longUpper, longLower);
    }

    private static void dueCalled(int k, String name) {
        for (int i = 0; i < name.length(); i++) {
            Checks.due("called(" + k + ", " + i + ") of '" + name + "'", x.called(k, i), name.charAt(i));
        }
        Checks.due("called(" + k + "): not so many", x.called(k, name.length()), -1);
    }

    private static void dueBar(int k, int... due) {
        for (int what = 0; what < due.length; what++) {
            Checks.due("bar(" + k + ", " + what + ")", x.bar(k, what), due[what]);
        }
    }

    // ---- promise 16

    private static void promise16OfATone() {
        Sentences.of(16, "Of TONE k (0 on), what 0 its number, 1 KIND, 2 its NOTE, 3 its letter (0 c to 6 b), 4 its octave, 5 by how much its"
            + " number is above that of letter and octave alone (perhaps below 0), 6 BAR in which it begins.");
        x = Checks.song("note c4 1/8 sl tr an;note e4 1/8 ap f+4;rest 1/4;note b+8 1/4 pr;note c-0 1/4 lm;note d-4 1/4;note d4 1/4 gr a=4;");
        dueSounds(0, 57, 4, 0, 5, 3, 0, 0);
        dueSounds(1, 59, 2, 0, 6, 3, 0, 0);
        dueSounds(2, 60, 0, 0, 0, 4, 0, 0);
        dueSounds(3, 64, 5, 0, 2, 4, 0, 0);
        dueSounds(4, 66, 3, 1, 3, 4, 1, 0);
        dueSounds(5, 64, 0, 1, 2, 4, 0, 0);
        // UPPER of b+8 is no less than one above: c+9.
        dueSounds(6, 121, 1, 3, 0, 9, 1, 0);
        dueSounds(7, 120, 0, 3, 6, 8, 1, 0);
        dueSounds(10, 11, 0, 4, 0, 0, -1, 0);
        // LOWER of c-0 is no more than one below: b- of octave -1.
        dueSounds(11, 10, 2, 4, 6, -1, -1, 0);
        dueSounds(15, 61, 0, 5, 1, 4, -1, 1);
        dueSounds(16, 69, 3, 6, 5, 4, 0, 1);
        dueSounds(17, 61, 0, 6, 1, 4, -1, 1);
        Checks.due("TONES", x.count(1), 18);
        String letters = "cdefgab";
        for (int letter = 0; letter < 7; letter++) {
            x = Checks.song("note " + letters.charAt(letter) + "4 1/4;");
            Checks.due("letter " + letters.charAt(letter), x.sounds(0, 3), letter);
        }
        x = Checks.song("note c4 1/1;note d4 1/4 gr e4;");
        Checks.due("TONE 0 begins BAR 0", x.sounds(0, 6), 0);
        Checks.due("the GRACE begins in the BAR ahead", x.sounds(1, 6), 0);
        Checks.due("a TONE that begins where a BAR does is in it", x.sounds(2, 6), 1);
        x = Checks.song("meter 1/16;note c4 1/16 tr;tie 1/16;tie 1/16;");
        int[] bars = {0, 0, 1, 1, 2, 2};
        for (int k = 0; k < 6; k++) {
            Checks.due("BAR of TONE " + k, x.sounds(k, 6), bars[k]);
        }
    }

    private static void promise16AsManyAsCanBe() {
        Sentences.of(16, "Of TONE k (0 on),");
        StringBuilder text = new StringBuilder("meter16/1;speed20;");
        for (int i = 0; i < 48; i++) {
            text.append(i % 2 == 0 ? "note c4 8/1dc;" : "note d4 8/1dc;");
        }
        // c by turns with d: 2 that join, 64 turns, and the AFTERBEAT where the next NOTE is UPPER.
        int most = 24 * 68 + 24 * 66;
        for (int from = 0; from < most; from += 400) {
            x = Checks.song(text.toString());
            x.terms(1, 64);
            x.terms(4, 1);
            Checks.due("TONES", x.count(1), most);
            for (int k = from; k < from + 400 && k < most; k++) {
                Checks.due("NOTE of TONE " + k, x.sounds(k, 2), k / 134 * 2 + (k % 134 < 68 ? 0 : 1));
            }
        }
        dueSounds(0, 59, 2, 0, 6, 3, 0, 0);
        dueSounds(67, 60, 0, 0, 0, 4, 0, 0);
        dueSounds(68, 60, 2, 1, 0, 4, 0, 0);
        dueSounds(most - 1, 62, 0, 47, 1, 4, 0, 23);
        dueWhen(most - 1, 24 * 16 * 64 - 512 + 65, 64, 447, 64);
        Checks.due("none behind", x.sounds(most, 0), -100);
    }

    private static void promise16Codes() {
        Sentences.of(16, "-100: there is none such, what.");
        x = Checks.song("note c4 1/4 mo;rest 1/4;");
        for (int k : new int[] {LEAST, -1, 3, 4, 800, GREATEST}) {
            for (int what : new int[] {LEAST, -1, 0, 6, 7, GREATEST}) {
                Checks.due("sounds(" + k + ", " + what + ")", x.sounds(k, what), -100);
            }
        }
        for (int what : new int[] {LEAST, -1, 7, 8, GREATEST}) {
            Checks.due("sounds(0, " + what + ")", x.sounds(0, what), -100);
            Checks.due("sounds(2, " + what + ")", x.sounds(2, what), -100);
        }
        x.body(0, 0);
        Checks.due("a TONE that is no more", x.sounds(1, 0), -100);
        Checks.due("without NOTES", new OrnamentsOut().sounds(0, 0), -100);
        Checks.due("of rests alone", Checks.song("rest 1/4;").sounds(0, 0), -100);
    }

    // ---- promise 17

    private static void promise17BeginAndLength() {
        Sentences.of(17, "When TONE k begins (which 0), how long it is (1).");
        x = Checks.song("note c4 1/4;rest 1/8;note d4 1/8 ap e4;note d4 1/8 gr e4 an;note f4 1/8;");
        dueWhen(0, 0, 1, 1, 4);
        dueWhen(1, 3, 8, 1, 16);
        dueWhen(2, 7, 16, 1, 32);
        dueWhen(3, 15, 32, 1, 32);
        dueWhen(4, 1, 2, 3, 32);
        dueWhen(5, 19, 32, 1, 32);
        dueWhen(6, 5, 8, 1, 8);
        x = Checks.song("speed 20;note c4 1/32 ap d4 dt;");
        x.terms(0, 20);
        dueWhen(5, 15, 512, 1, 512);
    }

    private static void promise17Codes() {
        Sentences.of(17, "-2: also which, what.");
        x = Checks.song("note c4 1/4 mo;rest 1/4;");
        for (int k : new int[] {LEAST, -1, 3, 4, 800, GREATEST}) {
            Checks.due("when(" + k + ", 0, 0)", x.when(k, 0, 0), -2);
            Checks.due("when(" + k + ", 1, 1)", x.when(k, 1, 1), -2);
        }
        for (int one : new int[] {LEAST, -1, 2, 3, GREATEST}) {
            Checks.due("when(0, " + one + ", 0)", x.when(0, one, 0), -2);
            Checks.due("when(2, 0, " + one + ")", x.when(2, 0, one), -2);
            Checks.due("when(2, 1, " + one + ")", x.when(2, 1, one), -2);
        }
    }

    // ---- promise 18

    private static void promise18HowItIsCalled() {
        Sentences.of(18, "Byte i of how TONE k is called: its letter, as many + or - as it is above, below (none: nothing), its octave (perhaps"
            + " -1, 9), a blank, its length as upper / lower number (as f+4 1/32).");
        x = Checks.song("note f+4 1/32;note c0 1/8 mo;note b8 1/8 tr;note b=3 13/32;");
        dueCalled(0, "f+4 1/32");
        dueCalled(1, "c0 1/32");
        dueCalled(2, "b-1 1/32");
        dueCalled(3, "c0 1/16");
        dueCalled(4, "c9 1/32");
        dueCalled(7, "b8 1/32");
        dueCalled(8, "b3 13/32");
        x = Checks.song("note c-0 1/8 mo;note b+8 1/8 pr;note g-4 1/4;");
        dueCalled(0, "c-0 1/32");
        dueCalled(1, "b--1 1/32");
        dueCalled(3, "c+9 1/32");
        dueCalled(4, "b+8 1/32");
        dueCalled(7, "g-4 1/4");
        x = Checks.song("meter 16/1;note a4 16/1;" + "tie16/1;".repeat(95));
        dueCalled(0, "a4 1536/1");
        x = Checks.song("speed 20;note d4 1/32 ap e4 dt;");
        x.terms(0, 20);
        dueCalled(2, "e4 1/512");
        x = Checks.song("key -7;note c4 1/4;");
        dueCalled(0, "c-4 1/4");
    }

    private static void promise18Codes() {
        Sentences.of(18, "NONE: not so many; -2: the TONE; -3: i is below 0.");
        x = Checks.song("note f+4 1/32;rest 1/4;");
        Checks.due("the last byte", x.called(0, 7), '2');
        for (int i : new int[] {8, 9, 800, GREATEST}) {
            Checks.due("called(0, " + i + ")", x.called(0, i), -1);
        }
        for (int i : new int[] {LEAST, -2, -1}) {
            Checks.due("called(0, " + i + ")", x.called(0, i), -3);
        }
        for (int k : new int[] {LEAST, -1, 1, 2, GREATEST}) {
            for (int i : new int[] {LEAST, -1, 0, GREATEST}) {
                Checks.due("called(" + k + ", " + i + ")", x.called(k, i), -2);
            }
        }
    }

    // ---- promise 19

    private static void promise19WhatSounds() {
        Sentences.of(19, "The TONE that sounds at upper by lower of a whole from the begin (which begins there or ahead, and ends behind).");
        x = Checks.song("note c4 1/4;note d4 1/4;rest 1/4;note e4 1/4 gr f4;note g4 1/32;");
        int[][] due = {{0, 1, 0}, {0, 10000, 0}, {2499, 10000, 0}, {1, 4, 1}, {2500, 10000, 1}, {4999, 10000, 1}, {3, 4, 2},
            {7812, 10000, 2}, {25, 32, 3}, {7813, 10000, 3}, {9999, 10000, 3}, {1, 1, 4}, {10312, 10000, 4}, {5, 7, -1}};
        for (int[] row : due) {
            Checks.due("at(" + row[0] + ", " + row[1] + ")", x.at(row[0], row[1]), row[2]);
        }
        x = Checks.song("meter 16/1;note a4 16/1;" + "tie16/1;".repeat(95));
        Checks.due("far behind", x.at(1536 * 10000 - 1, 10000), 0);
        x = Checks.song("note c4 1/4;note d4 1/4;note e4 1/4;");
        Checks.due("TONE 1", x.at(3, 8), 1);
        Checks.text(x, "note c4 1/4;rest 1/2;");
        Checks.due("a TONE of a former text sounds no more", x.at(3, 8), -1);
    }

    private static void promise19Codes() {
        Sentences.of(19, "NONE; -3: upper is below 0, lower isn't 1 to 10,000.");
        x = Checks.song("note c4 1/4;rest 1/4;note d4 1/4;");
        Checks.due("where a rest begins", x.at(1, 4), -1);
        Checks.due("ahead of where it ends", x.at(4999, 10000), -1);
        Checks.due("where the last TONE ends", x.at(3, 4), -1);
        Checks.due("the greatest upper", x.at(GREATEST, 1), -1);
        Checks.due("the greatest upper by the greatest lower", x.at(GREATEST, 10000), -1);
        Checks.due("without NOTES", new OrnamentsOut().at(0, 1), -1);
        Checks.due("lower 1", x.at(0, 1), 0);
        Checks.due("lower 10000", x.at(1, 10000), 0);
        for (int lower : new int[] {LEAST, -1, 0, 10001, GREATEST}) {
            Checks.due("at(0, " + lower + ")", x.at(0, lower), -3);
            Checks.due("at(" + GREATEST + ", " + lower + ")", x.at(GREATEST, lower), -3);
        }
        for (int upper : new int[] {LEAST, -2, -1}) {
            Checks.due("at(" + upper + ", 1)", x.at(upper, 1), -3);
            Checks.due("at(" + upper + ", 10000)", x.at(upper, 10000), -3);
            Checks.due("at(" + upper + ", 0)", x.at(upper, 0), -3);
        }
    }

    // ---- promise 20

    private static void promise20OfABar() {
        Sentences.of(20, "Of BAR k, what 0 how many TONES begin in it, 1 how many NOTES, 2, 3 how long it is (upper, lower number; the last one as"
            + " far as it goes), 4, 5 for how much of it TONES sound (likewise).");
        x = Checks.song("meter 3/4;note c4 1/4 mo;rest 1/2;meter 1/4;note e4 1/4;note f4 1/4 gr g4;tie 1/4;rest 1/4;meter 4/4;rest 1/8;note c4 1/8;");
        dueBar(0, 3, 2, 3, 4, 1, 4);
        dueBar(1, 2, 1, 1, 4, 1, 4);
        dueBar(2, 1, 1, 1, 4, 1, 4);
        dueBar(3, 0, 0, 1, 4, 1, 4);
        dueBar(4, 0, 1, 1, 4, 0, 1);
        dueBar(5, 1, 2, 1, 4, 1, 8);
        x = Checks.song("note c4 1/4;note d4 3/4;");
        dueBar(0, 2, 2, 1, 1, 1, 1);
        Checks.text(x, "note c4 1/4;rest 3/4;");
        dueBar(0, 1, 2, 1, 1, 1, 4);
        x = Checks.song("note c4 1/1;");
        dueBar(0, 1, 1, 1, 1, 1, 1);
        x = Checks.song("rest 1/32;");
        dueBar(0, 0, 1, 1, 32, 0, 1);
        x = Checks.song("meter 16/1;note c4 1/1;rest 15/1;note c4 1/4;tie 1/8;");
        dueBar(0, 1, 2, 16, 1, 1, 1);
        dueBar(1, 1, 1, 3, 8, 3, 8);
        x = Checks.song("note c4 1/1;" + "tie1/1;".repeat(112));
        dueBar(112, 0, 0, 1, 1, 1, 1);
        Checks.due("no BAR 113", x.bar(113, 0), -2);
    }

    private static void promise20Codes() {
        Sentences.of(20, "-2: there is none such, what.");
        x = Checks.song("note c4 1/1;rest 1/4;");
        for (int k : new int[] {LEAST, -1, 2, 120, GREATEST}) {
            for (int what : new int[] {LEAST, -1, 0, 5, 6, GREATEST}) {
                Checks.due("bar(" + k + ", " + what + ")", x.bar(k, what), -2);
            }
        }
        for (int what : new int[] {LEAST, -1, 6, 7, GREATEST}) {
            Checks.due("bar(0, " + what + ")", x.bar(0, what), -2);
            Checks.due("bar(1, " + what + ")", x.bar(1, what), -2);
        }
        Checks.due("without NOTES", new OrnamentsOut().bar(0, 0), -2);
        Checks.due("of a METER alone", Checks.song("meter 3/4;").bar(0, 0), -2);
    }

    public static void main(String[] args) {
        promise16OfATone();
        promise16AsManyAsCanBe();
        promise16Codes();
        promise17BeginAndLength();
        promise17Codes();
        promise18HowItIsCalled();
        promise18Codes();
        promise19WhatSounds();
        promise19Codes();
        promise20OfABar();
        promise20Codes();
        Sentences.end("BoundsPromises16To20Test");
    }
}
