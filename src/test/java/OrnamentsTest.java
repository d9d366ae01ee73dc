/** "==== 2." of the terms: what each ornament is written out as. At SPEED 100 T is 1/32, a 64th is QUICK. */
public final class OrnamentsTest {
    private static OrnamentsOut x;

    /** The TONES of a text, and the VERDICTS of one of its NOTES. */
    private static void due(String text, String tones, int note, int prefix, int body, int behind) {
        x = Checks.song(text);
        dueNow(tones, note, prefix, body, behind);
    }

    private static void dueNow(String tones, int note, int prefix, int body, int behind) {
        Checks.dueTones(x, tones);
        Checks.dueVerdicts(x, note, prefix, body, behind);
    }

    private static void graces() {
        due("note c4 1/4; note d4 1/4 gr e4 f4;", "c4 3/16, e4 1/32, f4 1/32, d4 1/4", 1, 1, 0, 0);
        due("note c4 1/8; note d4 1/4 gr e4 f4;", "c4 1/16, e4 1/32, f4 1/32, d4 1/4", 1, 1, 0, 0);
        due("note c4 1/8; note d4 1/4 gr e4 f4 g4;", "c4 1/8, e4 1/32, f4 1/32, g4 1/32, d4 5/32", 1, 1, 0, 0);
        due("note c4 1/16; note d4 1/8 gr e4 f4 g4;", "c4 1/16, f4 1/32, g4 1/32, d4 1/16", 1, 2, 0, 0);
        due("note c4 1/32; note d4 1/32 gr e4 f4;", "c4 1/32, d4 1/32", 1, 3, 0, 0);
        due("rest 1/4; note d4 1/4 gr e4;", "e4 1/32, d4 7/32", 1, 1, 0, 0);
        due("note d4 1/4 gr e4;", "e4 1/32, d4 7/32", 0, 1, 0, 0);
        x = Checks.song("note c4 1/4; note d4 1/4 gr e4 f4;");
        x.terms(2, 0);
        dueNow("c4 1/4, e4 1/32, f4 1/32, d4 3/16", 1, 1, 0, 0);
        Checks.due("KIND of a GRACE", x.sounds(1, 1), 3);
        // The latest TONE, not the NOTE ahead, must be twice as long.
        due("note c4 1/8 mo; note d4 1/4 gr e4;", "c4 1/32, b3 1/32, c4 1/32, e4 1/32, d4 1/4", 1, 1, 0, 0);
        due("note c4 1/8 mo; note d4 1/4 gr e4 e4;", "c4 1/32, b3 1/32, c4 1/16, e4 1/32, e4 1/32, d4 3/16", 1, 1, 0, 0);
        due("speed 50; note c4 1/4 an; speed 400; note d4 1/2 gr e4;", "c4 7/32, d4 1/32, e4 1/8, d4 3/8", 1, 1, 0, 0);
    }

    private static void appoggiaturas() {
        due("note c4 1/4 ap d4;", "d4 1/8, c4 1/8", 0, 1, 0, 0);
        due("note c4 3/8 ap d4;", "d4 1/4, c4 1/8", 0, 1, 0, 0);
        due("meter 6/4; note c4 6/4 ap d4;", "d4 1/1, c4 1/2", 0, 1, 0, 0);
        due("meter 6/1; note c4 6/1 ap d4;", "d4 3/1, c4 3/1", 0, 1, 0, 0);
        due("note c4 5/8 ap d4;", "d4 5/16, c4 5/16", 0, 1, 0, 0);
        due("note c4 1/8; tie 1/4; note c4 1/16 ap d4; tie 1/8;", "c4 3/8, d4 1/8, c4 1/16", 1, 1, 0, 0);
        due("note c4 1/16 ap d4;", "d4 1/32, c4 1/32", 0, 1, 0, 0);
        due("note c4 1/32 ap d4;", "c4 1/32", 0, 3, 0, 0);
        due("note c4 1/4 ap d+4 tr;", "d+4 1/8, d4 1/32, c4 1/32, d4 1/32, c4 1/32", 0, 1, 1, 0);
        due("note c4 1/4 ap d4 tr;", "d4 1/8, c4 1/32, d4 1/32, c4 1/16", 0, 1, 1, 0);
    }

    private static void slides() {
        due("note c4 1/8 sl;", "a3 1/32, b3 1/32, c4 1/16", 0, 1, 0, 0);
        due("note c4 3/32 sl;", "b3 1/32, c4 1/16", 0, 2, 0, 0);
        due("note c4 1/16 sl;", "b3 1/32, c4 1/32", 0, 2, 0, 0);
        due("note c4 1/32 sl;", "c4 1/32", 0, 3, 0, 0);
        x = Checks.song("note c4 1/8 sl;");
        Checks.due("KIND of LOW", x.sounds(0, 1), 4);
        Checks.due("KIND of LOWER", x.sounds(1, 1), 2);
        due("note c0 1/8 sl;", "a-1 1/32, b-1 1/32, c0 1/16", 0, 1, 0, 0);
        due("note f-4 1/8 sl mo down+;", "d4 1/32, e-4 1/32, f-4 1/16", 0, 1, 3, 0);
    }

    private static void mordentsAndPralls() {
        due("note c4 3/32 mo;", "c4 1/32, b3 1/32, c4 1/32", 0, 0, 1, 0);
        due("note c4 1/16 mo;", "c4 1/16", 0, 0, 3, 0);
        due("note c4 5/32 lm;", "c4 1/32, b3 1/32, c4 1/32, b3 1/32, c4 1/32", 0, 0, 1, 0);
        due("note c4 1/8 lm;", "c4 1/32, b3 1/32, c4 1/16", 0, 0, 2, 0);
        due("note c4 1/16 lm;", "c4 1/16", 0, 0, 3, 0);
        due("note c4 1/8 pr;", "d4 1/32, c4 1/32, d4 1/32, c4 1/32", 0, 0, 1, 0);
        due("note c4 3/32 pr;", "c4 1/32, d4 1/32, c4 1/32", 0, 0, 2, 0);
        due("note c4 1/16 pr;", "c4 1/16", 0, 0, 3, 0);
        due("note d4 1/4; note c4 3/32 pr;", "d4 1/4, c4 1/32, d4 1/32, c4 1/32", 1, 0, 1, 0);
        due("note d4 1/4; note c4 1/16 pr;", "d4 1/4, c4 1/16", 1, 0, 3, 0);
        due("note d4 1/4; rest 1/8; note c4 1/8 pr;", "d4 1/4, d4 1/32, c4 1/32, d4 1/32, c4 1/32", 2, 0, 1, 0);
        due("note d5 1/4; note c4 1/8 pr;", "d5 1/4, d4 1/32, c4 1/32, d4 1/32, c4 1/32", 1, 0, 1, 0);
        due("note d4 1/4; note c4 1/8 gr f4 pr;", "d4 7/32, f4 1/32, d4 1/32, c4 1/32, d4 1/32, c4 1/32", 1, 1, 1, 0);
        due("note c4 1/4 an; note d4 1/4; note c4 1/8 pr;",
            "c4 7/32, d4 1/32, d4 1/4, c4 1/32, d4 1/32, c4 1/16", 2, 0, 1, 0);
        // Of like number is enough: e- is UPPER's number, whatever its letter.
        due("note e-4 1/4; note c4 1/8 pr up+;", "e-4 1/4, c4 1/32, d+4 1/32, c4 1/16", 1, 0, 1, 0);
        x = Checks.song("note c4 1/8 pr;");
        x.terms(6, 1);
        dueNow("c4 1/32, d4 1/32, c4 1/16", 0, 0, 1, 0);
    }

    private static void trills() {
        due("note c4 1/8 tr;", "d4 1/32, c4 1/32, d4 1/32, c4 1/32", 0, 0, 1, 0);
        due("note c4 5/32 tr;", "d4 1/32, c4 1/32, d4 1/32, c4 1/16", 0, 0, 1, 0);
        due("note c4 3/16 tr;", "d4 1/32, c4 1/32, d4 1/32, c4 1/32, d4 1/32, c4 1/32", 0, 0, 1, 0);
        due("note c4 3/32 tr;", "c4 1/32, d4 1/32, c4 1/32", 0, 0, 2, 0);
        due("note c4 1/16 tr;", "c4 1/16", 0, 0, 3, 0);
        due("note d4 1/4; note c4 3/32 tr;", "d4 1/4, c4 1/32, d4 1/32, c4 1/32", 1, 0, 1, 0);
        due("note d4 1/4; note c4 5/32 tr;", "d4 1/4, c4 1/32, d4 1/32, c4 1/32, d4 1/32, c4 1/32", 1, 0, 1, 0);
        due("note d4 1/4; note c4 1/16 tr;", "d4 1/4, c4 1/16", 1, 0, 3, 0);
        x = Checks.song("meter 4/1; note c4 4/1 tr;");
        Checks.due("64 turns at most", x.note(0, 15), 64);
        Checks.due("the last one is PRINCIPAL", x.sounds(63, 1), 0);
        Checks.dueFraction("as long as is left", x.when(63, 1, 0), x.when(63, 1, 1), 65, 32);
        x.terms(6, 1);
        Checks.due("63 from PRINCIPAL", x.note(0, 15), 63);
        x.after(0, 1);
        Checks.due("with AFTERBEAT", x.note(0, 15), 65);
        Checks.dueFraction("the last turn", x.when(62, 1, 0), x.when(62, 1, 1), 2, 1);
    }

    private static void afterbeats() {
        String six = "d4 1/32, c4 1/32, d4 1/32, c4 1/32, ";
        due("note c4 3/16 tr nb;", six + "b3 1/32, c4 1/32", 0, 0, 1, 1);
        due("note c4 7/32 tr nb;", "d4 1/32, c4 1/32, d4 1/32, c4 1/16, b3 1/32, c4 1/32", 0, 0, 1, 1);
        due("note c4 5/32 tr nb;", "d4 1/32, c4 1/32, d4 1/32, c4 1/16", 0, 0, 1, 3);
        due("note c4 3/32 tr nb;", "c4 1/32, d4 1/32, c4 1/32", 0, 0, 2, 3);
        due("note c4 1/16 tr nb;", "c4 1/16", 0, 0, 3, 3);
        due("note d4 1/4; note c4 5/32 tr nb;", "d4 1/4, c4 1/32, d4 1/32, c4 1/32, b3 1/32, c4 1/32", 1, 0, 1, 1);
        x = Checks.song("note c4 3/16 tr; note d4 1/4; note e4 3/16 tr; note g4 3/16; note c4 3/16 tr;");
        Checks.due("without AFTER", x.note(0, 15), 6);
        x.terms(4, 1);
        Checks.due("AFTER: KIND of the last but one", x.sounds(4, 1), 2);
        Checks.dueVerdicts(x, 0, 0, 1, 0);
        Checks.due("AFTER: the next isn't UPPER", x.sounds(11, 1), 1);
        Checks.due("AFTER: none is behind", x.sounds(18, 1), 1);
        due("note c4 3/16 tr; rest 1/4;", six + "d4 1/32, c4 1/32", 0, 0, 1, 0);
        x.terms(4, 1);
        dueNow(six + "d4 1/32, c4 1/32", 0, 0, 1, 0);
        due("note c4 5/32 tr; note d4 1/4;", "d4 1/32, c4 1/32, d4 1/32, c4 1/16, d4 1/4", 0, 0, 1, 0);
        x.terms(4, 1);
        dueNow("d4 1/32, c4 1/32, d4 1/32, c4 1/16, d4 1/4", 0, 0, 1, 0);
    }

    private static void turns() {
        due("note c4 1/8 tu;", "d4 1/32, c4 1/32, b3 1/32, c4 1/32", 0, 0, 1, 0);
        due("note c4 1/4 it;", "b3 1/32, c4 1/32, d4 1/32, c4 5/32", 0, 0, 1, 0);
        due("note c4 3/32 tu;", "c4 3/32", 0, 0, 3, 0);
        due("speed 72; note c4 3/32 tu;", "d4 3/128, c4 3/128, b3 3/128, c4 3/128", 0, 0, 1, 0);
        due("speed 72; note c4 3/32 it;", "b3 3/128, c4 3/128, d4 3/128, c4 3/128", 0, 0, 1, 0);
        due("speed 72; note c4 1/16 it;", "c4 1/16", 0, 0, 3, 0);
        due("note c4 1/4 dt;", "c4 1/8, d4 1/32, c4 1/32, b3 1/32, c4 1/32", 0, 0, 1, 0);
        due("note c4 7/32 dt;", "d4 1/32, c4 1/32, b3 1/32, c4 1/8", 0, 0, 2, 0);
        due("note c4 3/32 dt;", "c4 3/32", 0, 0, 3, 0);
        due("speed 20; note c4 1/32 ap d4 dt;", "d4 1/64, c4 1/64", 0, 1, 3, 0);
        x.terms(0, 20);
        dueNow("d4 1/64, c4 1/128, d4 1/512, c4 1/512, b3 1/512, c4 1/512", 0, 1, 1, 0);
    }

    private static void cadences() {
        String join = "b3 1/32, c4 1/32, ";
        String four = "d4 1/32, c4 1/32, d4 1/32, c4 1/32";
        due("note c4 3/16 dc;", join + four, 0, 0, 1, 0);
        due("note d4 1/4; note c4 3/16 dc;", "d4 1/4, " + join + four, 1, 0, 1, 0);
        due("note c4 5/32 dc;", "d4 1/32, c4 1/32, d4 1/32, c4 1/16", 0, 0, 2, 0);
        due("note d4 1/4; note c4 5/32 dc;", "d4 1/4, c4 1/32, d4 1/32, c4 1/32, d4 1/32, c4 1/32", 1, 0, 2, 0);
        due("note c4 3/32 dc;", "c4 1/32, d4 1/32, c4 1/32", 0, 0, 2, 0);
        due("note c4 1/16 dc nb;", "c4 1/16", 0, 0, 3, 3);
        due("note c4 1/4 dc nb;", join + four + ", " + join.substring(0, 16), 0, 0, 1, 1);
        due("note c4 7/32 dc nb;", join + "d4 1/32, c4 1/32, d4 1/32, c4 1/16", 0, 0, 1, 3);
        due("note c4 5/32 dc nb;", "d4 1/32, c4 1/32, d4 1/32, c4 1/16", 0, 0, 2, 3);
        due("note d4 1/4; note c4 5/32 dc nb;", "d4 1/4, c4 1/32, d4 1/32, c4 1/32, b3 1/32, c4 1/32", 1, 0, 2, 1);
        x = Checks.song("note c4 5/32 dc;");
        x.terms(6, 1);
        dueNow(join + "c4 1/32, d4 1/32, c4 1/32", 0, 0, 1, 0);
    }

    private static void anticipations() {
        due("note c4 1/4 an; note g+4 1/4;", "c4 7/32, g+4 1/32, g+4 1/4", 0, 0, 0, 1);
        Checks.due("KIND of an", x.sounds(1, 1), 5);
        Checks.due("its NOTE", x.sounds(1, 2), 0);
        due("note c4 1/16 an; note g4 1/4;", "c4 1/32, g4 1/32, g4 1/4", 0, 0, 0, 1);
        due("note c4 1/32 an; note g4 1/4;", "c4 1/32, g4 1/4", 0, 0, 0, 3);
        due("note c4 1/8 mo an; note g4 1/4;", "c4 1/32, b3 1/32, c4 1/32, g4 1/32, g4 1/4", 0, 0, 1, 1);
        due("note c4 3/32 mo an; note g4 1/4;", "c4 1/32, b3 1/32, c4 1/32, g4 1/4", 0, 0, 1, 3);
        due("note c4 1/4 an; rest 1/4;", "c4 1/4", 0, 0, 0, 3);
        due("note c4 1/4 an;", "c4 1/4", 0, 0, 0, 3);
        due("note c4 1/4 an; note e4 1/4 gr d4;", "c4 7/32, e4 1/32, d4 1/32, e4 7/32", 1, 1, 0, 0);
    }

    public static void main(String[] args) {
        graces();
        appoggiaturas();
        slides();
        mordentsAndPralls();
        trills();
        afterbeats();
        turns();
        cadences();
        anticipations();
        Checks.end("OrnamentsTest");
    }
}
