/** Promises 16 to 20: sounds, when, called, at, bar. */
public final class TonesTest {
    private static void sounds() {
        OrnamentsOut x = Checks.song("key 2; note b4 1/2 tr; note c4 1/2 gr d-4; tie 1/4; note b+8 1/4 pr; note c-0 1/4 mo;");
        int[][] due = {
            {0, 73, 1, 0, 0, 5, 1, 0},
            {1, 71, 0, 0, 6, 4, 0, 0},
            {16, 61, 3, 1, 1, 4, -1, 0},
            {17, 61, 0, 1, 0, 4, 1, 0},
            {18, 121, 1, 2, 0, 9, 1, 1},
            {19, 120, 0, 2, 6, 8, 1, 1},
            {23, 10, 2, 3, 6, -1, -1, 1}};
        for (int[] row : due) {
            for (int what = 0; what < 7; what++) {
                Checks.due("sounds(" + row[0] + ", " + what + ")", x.sounds(row[0], what), row[what + 1]);
            }
        }
        Checks.due("TONES", x.count(1), 25);
        Checks.due("sounds(25, 0)", x.sounds(25, 0), -100);
        Checks.due("sounds(-1, 0)", x.sounds(-1, 0), -100);
        Checks.due("sounds(0, 7)", x.sounds(0, 7), -100);
        Checks.due("sounds(0, -1)", x.sounds(0, -1), -100);
        x = Checks.song("note c4 1/1; note d4 1/4 gr e4;");
        Checks.due("a GRACE begins in the BAR ahead", x.sounds(1, 6), 0);
        Checks.due("its NOTE doesn't", x.note(1, 1), 1);
        x = Checks.song("meter 1/16; note c4 1/16 tr; tie 1/16; tie 1/16;");
        Checks.due("TONES of a tied NOTE go on in later BARS", x.sounds(5, 6), 2);
    }

    private static void when() {
        OrnamentsOut x = Checks.song("note c4 1/4; rest 1/8; note d4 1/4 gr e4 mo;");
        long[][] due = {{0, 1, 1, 4}, {3, 8, 1, 32}, {13, 32, 1, 32}, {7, 16, 1, 32}, {15, 32, 5, 32}};
        for (int k = 0; k < due.length; k++) {
            Checks.dueFraction("when " + k + " begins", x.when(k, 0, 0), x.when(k, 0, 1), due[k][0], due[k][1]);
            Checks.dueFraction("when " + k + " is long", x.when(k, 1, 0), x.when(k, 1, 1), due[k][2], due[k][3]);
        }
        Checks.due("when(5, 0, 0)", x.when(5, 0, 0), -2);
        Checks.due("when(-1, 0, 0)", x.when(-1, 0, 0), -2);
        Checks.due("when(0, 2, 0)", x.when(0, 2, 0), -2);
        Checks.due("when(0, -1, 0)", x.when(0, -1, 0), -2);
        Checks.due("when(0, 0, 2)", x.when(0, 0, 2), -2);
        Checks.due("when(0, 1, -1)", x.when(0, 1, -1), -2);
    }

    private static void called() {
        OrnamentsOut x = Checks.song("meter 4/1; note f+4 1/32; note b-8 3/1 tu up+; note c0 1/4 mo; note g=3 13/32;");
        String[] due = {"f+4 1/32", "c+9 1/32", "b-8 1/32", "a8 1/32", "b-8 93/32", "c0 1/32", "b-1 1/32", "c0 3/16", "g3 13/32"};
        for (int k = 0; k < due.length; k++) {
            for (int i = 0; i < due[k].length(); i++) {
                Checks.due("called(" + k + ", " + i + ")", x.called(k, i), due[k].charAt(i));
            }
            Checks.due("called: not so many", x.called(k, due[k].length()), -1);
            Checks.due("called: by far", x.called(k, Integer.MAX_VALUE), -1);
        }
        Checks.due("called(0, -1)", x.called(0, -1), -3);
        Checks.due("called(9, -1): the TONE first", x.called(9, -1), -2);
        Checks.due("called(-1, 0)", x.called(-1, 0), -2);
        Checks.dueTones(Checks.song("note c-0 1/1 lm;"), "c-0 1/32, b--1 1/32, c-0 1/32, b--1 1/32, c-0 7/8");
    }

    private static void at() {
        OrnamentsOut x = Checks.song("note c4 1/4 mo; rest 1/4; note d4 1/2;");
        Checks.due("at(0, 1)", x.at(0, 1), 0);
        Checks.due("at(1, 33)", x.at(1, 33), 0);
        Checks.due("at(1, 32)", x.at(1, 32), 1);
        Checks.due("at(2, 32)", x.at(2, 32), 2);
        Checks.due("at(2499, 10000)", x.at(2499, 10000), 2);
        Checks.due("at(1, 4)", x.at(1, 4), -1);
        Checks.due("at(4999, 10000)", x.at(4999, 10000), -1);
        Checks.due("at(1, 2)", x.at(1, 2), 3);
        Checks.due("at(9999, 10000)", x.at(9999, 10000), 3);
        Checks.due("at(1, 1)", x.at(1, 1), -1);
        Checks.due("at far behind", x.at(Integer.MAX_VALUE, 1), -1);
        Checks.due("at(-1, 1)", x.at(-1, 1), -3);
        Checks.due("at(0, 0)", x.at(0, 0), -3);
        Checks.due("at(0, 10001)", x.at(0, 10001), -3);
        Checks.due("at(0, -5)", x.at(0, -5), -3);
    }

    private static void bar() {
        OrnamentsOut x = Checks.song("meter 3/4; note c4 1/4; rest 1/2; meter 1/4; note e4 1/4; note f4 1/4 gr g4 mo;"
            + "tie 1/4; meter 4/4; rest 1/8; note c4 1/8;");
        long[][] due = {
            {1, 2, 3, 4, 1, 4}, {2, 1, 1, 4, 1, 4}, {3, 1, 1, 4, 1, 4}, {0, 0, 1, 4, 1, 4}, {1, 2, 1, 4, 1, 8}};
        for (int k = 0; k < due.length; k++) {
            for (int what = 0; what < 6; what++) {
                Checks.due("bar(" + k + ", " + what + ")", x.bar(k, what), due[k][what]);
            }
        }
        Checks.due("BARS", x.count(2), 5);
        Checks.due("bar(5, 0)", x.bar(5, 0), -2);
        Checks.due("bar(-1, 0)", x.bar(-1, 0), -2);
        Checks.due("bar(0, 6)", x.bar(0, 6), -2);
        Checks.due("bar(0, -1)", x.bar(0, -1), -2);
        x = Checks.song("rest 1/1; key 1; meter 3/4;");
        Checks.due("a BAR that only may begin is none", x.count(2), 1);
        Checks.due("no TONE sounds", x.bar(0, 4), 0);
        Checks.due("for 0 by 1", x.bar(0, 5), 1);
    }

    public static void main(String[] args) {
        sounds();
        when();
        called();
        at();
        bar();
        Checks.end("TonesTest");
    }
}
