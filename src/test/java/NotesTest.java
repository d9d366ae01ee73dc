/** Promises 10 to 15: note, begin, length, borrowed, tone, milliseconds; UPPER, LOWER, LOW of the terms. */
public final class NotesTest {
    private static final String TEXT = "key -2; meter 3/4; speed 120; note b4 1/4 gr c5 d5 tr nb; rest 1/4; key 4; speed 60;"
        + "note e4 1/4 ap f4 mo an; tie 1/8; note g4 1/4;";

    private static void note() {
        OrnamentsOut x = Checks.song(TEXT);
        int[][] due = {
            {70, 0, 1, 2, 1, 0, -2, 120, 72, 69, 67},
            {-1, 0, 0, 0, 0, 0, -2, 120, -1, -1, -1},
            {64, 0, 2, 5, 2, 1, 4, 60, 66, 63, 61},
            {68, 1, 0, 0, 0, 0, 4, 60, 69, 66, 64}};
        for (int i = 0; i < due.length; i++) {
            for (int what = 0; what < due[i].length; what++) {
                Checks.due("note(" + i + ", " + what + ")", x.note(i, what), due[i][what]);
            }
        }
        Checks.dueVerdicts(x, 1, 0, 0, 0);
        Checks.due("first TONE of a rest", x.note(1, 14), -1);
        Checks.due("TONES of a rest", x.note(1, 15), 0);
        Checks.due("note(4, 0)", x.note(4, 0), -2);
        Checks.due("note(-1, 16)", x.note(-1, 16), -2);
        Checks.due("note(0, 16)", x.note(0, 16), -100);
        Checks.due("note(1, -1)", x.note(1, -1), -100);
        x = Checks.song("note c4 1/4; note d4 1/4 gr e4 f4 mo an; note e4 1/4;");
        Checks.due("first TONE, GRACES ahead count", x.note(1, 14), 1);
        Checks.due("TONES, with that of an", x.note(1, 15), 6);
        Checks.due("first TONE behind", x.note(2, 14), 7);
        Checks.due("sl", Checks.song("note d4 1/4 sl;").note(0, 3), 6);
        Checks.due("gr of 4", Checks.song("note d4 1/4 gr c4 c4 c4 c4;").note(0, 3), 4);
    }

    private static void neighbours() {
        OrnamentsOut x = Checks.song("note b4 1/8; note c5 1/8; note e+4 1/8; note f-4 1/8; note b8 1/8; note c0 1/8; note d0 1/8;");
        int[][] due = {{72, 69, 67}, {74, 71, 69}, {66, 62, 60}, {67, 63, 62}, {120, 117, 115}, {14, 11, 9}, {16, 12, 11}};
        for (int i = 0; i < due.length; i++) {
            for (int j = 0; j < 3; j++) {
                Checks.due("note(" + i + ", " + (8 + j) + ")", x.note(i, 8 + j), due[i][j]);
            }
        }
        x = Checks.song("note d+4 1/8; note c4 1/8 gr d=4; note c4 1/8; note e4 1/8 gr d-4; note e4 1/8; note f4 1/8; rest 1/4; note c4 1/4;");
        Checks.due("HOLD tells UPPER", x.note(1, 8), 63);
        Checks.due("its own PREFIX doesn't, a former one does", x.note(2, 8), 62);
        Checks.due("LOWER before its own PREFIX", x.note(3, 9), 62);
        Checks.due("LOWER behind it", x.note(4, 9), 61);
        Checks.due("LOW by HOLD", x.note(5, 10), 61);
        Checks.due("not in the next BAR", x.note(7, 8), 62);
        x.terms(3, 0);
        Checks.due("HOLD 0: UPPER by KEY", x.note(1, 8), 62);
        Checks.due("HOLD 0: LOWER by KEY", x.note(4, 9), 62);
        Checks.due("HOLD 0: LOW by KEY", x.note(5, 10), 62);
        x = Checks.song("note d+4 1/8; note c4 1/8 tu up= down+; note e4 1/8 tu up-; note g4 1/8 tu down-;");
        Checks.due("up comes ahead of HOLD", x.note(1, 8), 62);
        Checks.due("LOWER not below the NOTE is one below", x.note(1, 9), 59);
        Checks.due("UPPER not above the NOTE is one above", x.note(2, 8), 65);
        Checks.due("LOWER by down", x.note(3, 9), 64);
        Checks.due("LOW one below LOWER", x.note(3, 10), 63);
        Checks.due("KEY as it is at the NOTE", Checks.song("note e4 1/8; key 1; note e4 1/8;").note(1, 8), 66);
    }

    private static void times() {
        OrnamentsOut x = Checks.song(TEXT);
        long[][] due = {{0, 1, 1, 4}, {1, 4, 1, 4}, {1, 2, 3, 8}, {7, 8, 1, 4}};
        for (int i = 0; i < 4; i++) {
            Checks.dueFraction("begin " + i, x.begin(i, 0), x.begin(i, 1), due[i][0], due[i][1]);
            Checks.dueFraction("length " + i, x.length(i, 0), x.length(i, 1), due[i][2], due[i][3]);
        }
        Checks.due("begin(0, 2)", x.begin(0, 2), -2);
        Checks.due("begin(0, -1)", x.begin(0, -1), -2);
        Checks.due("begin(4, 0)", x.begin(4, 0), -2);
        Checks.due("length(0, 2)", x.length(0, 2), -2);
        Checks.due("length(-1, 0)", x.length(-1, 0), -2);
        int[] milliseconds = {500, 500, 1500, 1000};
        for (int i = 0; i < 4; i++) {
            Checks.due("milliseconds " + i, x.milliseconds(i), milliseconds[i]);
        }
        x.terms(5, 300);
        Checks.due("milliseconds are cut", x.milliseconds(0), 166);
        Checks.due("milliseconds(4)", x.milliseconds(4), -2);
        Checks.due("milliseconds(-1)", x.milliseconds(-1), -2);
    }

    private static void borrowed() {
        OrnamentsOut x = Checks.song("note c4 1/4; note d4 1/4 gr e4 f4; note e4 3/8 ap f4; note e4 1/8 sl;");
        Checks.dueFraction("from the one ahead", x.borrowed(1, 1, 0), x.borrowed(1, 1, 1), 1, 16);
        Checks.dueFraction("not from itself", x.borrowed(1, 0, 0), x.borrowed(1, 0, 1), 0, 1);
        Checks.dueFraction("what the next one took", x.borrowed(0, 2, 0), x.borrowed(0, 2, 1), 1, 16);
        Checks.dueFraction("by ap", x.borrowed(2, 0, 0), x.borrowed(2, 0, 1), 1, 4);
        Checks.dueFraction("by sl", x.borrowed(3, 0, 0), x.borrowed(3, 0, 1), 1, 16);
        Checks.dueFraction("ap isn't from the one ahead", x.borrowed(1, 2, 0), x.borrowed(1, 2, 1), 0, 1);
        Checks.dueFraction("nothing is behind the last", x.borrowed(3, 2, 0), x.borrowed(3, 2, 1), 0, 1);
        Checks.due("from 3", x.borrowed(0, 3, 0), -2);
        Checks.due("from -1", x.borrowed(0, -1, 0), -2);
        Checks.due("what 2", x.borrowed(0, 0, 2), -2);
        Checks.due("none such", x.borrowed(4, 0, 0), -2);
        Checks.text(x, "note c4 1/4;");
        Checks.dueFraction("a NOTE of a former text doesn't count", x.borrowed(0, 2, 0), x.borrowed(0, 2, 1), 0, 1);
        OrnamentsOut full = Checks.song("meter16/1;" + "note c4 1/4;".repeat(48));
        Checks.dueFraction("behind the 48th", full.borrowed(47, 2, 0), full.borrowed(47, 2, 1), 0, 1);
        x = Checks.song("note c4 1/4; note d4 1/4 gr e4 f4;");
        x.terms(2, 0);
        Checks.dueFraction("AHEAD 0: from itself", x.borrowed(1, 0, 0), x.borrowed(1, 0, 1), 1, 16);
        Checks.dueFraction("AHEAD 0: not ahead", x.borrowed(1, 1, 0), x.borrowed(1, 1, 1), 0, 1);
    }

    private static void tone() {
        OrnamentsOut x = Checks.song("speed 60; note c4 1/4; speed 400; rest 1/4;");
        Checks.dueFraction("T at 60", x.tone(0, 0), x.tone(0, 1), 1, 32);
        Checks.dueFraction("T at 400, of a rest, too", x.tone(1, 0), x.tone(1, 1), 1, 8);
        x.terms(1, 64);
        Checks.dueFraction("1/64 is 62.5: QUICK", x.tone(0, 0), x.tone(0, 1), 1, 32);
        x.terms(0, 62);
        Checks.dueFraction("62.5 isn't below 62", x.tone(0, 0), x.tone(0, 1), 1, 64);
        x.terms(0, 63);
        Checks.dueFraction("62.5 is below 63", x.tone(0, 0), x.tone(0, 1), 1, 32);
        x.terms(0, 125);
        Checks.dueFraction("125 isn't below 125", x.tone(0, 0), x.tone(0, 1), 1, 32);
        x.terms(0, 250);
        x.terms(5, 400);
        Checks.dueFraction("the longest T", x.tone(1, 0), x.tone(1, 1), 2, 1);
        Checks.due("tone(0, 2)", x.tone(0, 2), -2);
        Checks.due("tone(2, 0)", x.tone(2, 0), -2);
        Checks.due("tone(-1, 0)", x.tone(-1, 0), -2);
    }

    public static void main(String[] args) {
        note();
        neighbours();
        times();
        borrowed();
        tone();
        Checks.end("NotesTest");
    }
}
