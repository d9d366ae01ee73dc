/** Promises 1 to 4: a new object, feed, text, fault; and "A TEXT" of the terms. */
public final class TextTest {
    private static void aNewObject() {
        OrnamentsOut x = new OrnamentsOut();
        for (int what = 0; what <= 7; what++) {
            Checks.due("count(" + what + ") at first", x.count(what), 0);
        }
        Checks.due("count(8) at first", x.count(8), 1);
        Checks.due("fault(0) at first", x.fault(0), 0);
        Checks.due("fault(1) at first", x.fault(1), -1);
        Checks.due("note(0, 0) at first", x.note(0, 0), -2);
        Checks.due("sounds(0, 0) at first", x.sounds(0, 0), -100);
    }

    private static void feed() {
        OrnamentsOut x = new OrnamentsOut();
        for (int i = 1; i <= 40; i++) {
            Checks.due("feed", x.feed(0x20202020, 0x20202020, 0x20202020, 0x20202020, 0x20202020), 20 * i);
        }
        Checks.due("feed beyond 800", x.feed(0, 0, 0, 0, 0), -4);
        Checks.due("count(3)", x.count(3), 800);
        Checks.due("text of 801", x.text(801), -3);
        Checks.due("text of 800 blanks", x.text(800), 0);
        Checks.due("count(3) behind text", x.count(3), 0);
        Checks.due("feed again", x.feed(0x72657374, 0x20312f34, 0x3b6e6f74, 0x65206334, 0x20312f38), 20);
        Checks.due("first 9 of 'rest 1/4;note c4 1/8'", x.text(9), 1);
        Checks.due("the rest of THE TAPE is gone", x.count(3), 0);
        for (int n = 0; n <= 13; n++) {
            Checks.feed(x, "rest 1/16;key");
            int due = n == 0 ? 0 : n == 10 ? 1 : -31;
            Checks.due("a text ends where n says: " + n, x.text(n), due);
            int word = n < 4 ? 0 : n;
            Checks.due("its place", x.fault(1), due >= 0 ? -1 : n > 10 && n < 13 ? 10 : word);
        }
        x.feed(0xff000000, 0, 0, 0, 0);
        Checks.due("a byte above 127 can't stand", x.text(1), -31);
    }

    private static void textAndFault() {
        OrnamentsOut x = Checks.song("note c4 1/4; note d4 1/4;");
        Checks.feed(x, "note");
        Checks.due("text(-1)", x.text(-1), -3);
        Checks.due("text(21)", x.text(21), -3);
        Checks.due("THE TAPE stays", x.count(3), 20);
        Checks.due("fault(0) isn't of a refused n", x.fault(0), 0);
        Checks.due("text with a FAULT", x.text(4), -31);
        Checks.due("THE TAPE is empty", x.count(3), 0);
        Checks.due("NOTES stay", x.count(0), 2);
        Checks.due("note(1, 0) stays", x.note(1, 0), 62);
        Checks.due("fault(0)", x.fault(0), 1);
        Checks.due("fault(1)", x.fault(1), 4);
        Checks.due("fault(2)", x.fault(2), -1);
        Checks.due("fault(-1)", x.fault(-1), -1);
        Checks.due("text(1) of nothing", x.text(1), -3);
        Checks.due("fault(0) still", x.fault(0), 1);
        x.terms(0, 99);
        Checks.due("text again", Checks.text(x, "rest 1/4;"), 1);
        Checks.due("fault(0) is gone", x.fault(0), 0);
        Checks.due("fault(1) is gone", x.fault(1), -1);
        Checks.due("TERMS stay", x.count(10), 99);
        Checks.due("text(0)", x.text(0), 0);
        Checks.due("no NOTES then", x.count(0), 0);
    }

    private static void tokens() {
        Checks.dueFault("foo;", 1, 0);
        Checks.dueFault(";", 1, 0);
        Checks.dueFault("  4;", 1, 2);
        Checks.dueFault("Note c4 1/4;", 1, 0);
        Checks.dueFault("notec4 1/4;", 1, 0);
        Checks.dueFault("note cc4 1/4;", 1, 5);
        Checks.dueFault("note h4 1/4;", 1, 5);
        Checks.dueFault("note c 1/4;", 1, 8);
        Checks.dueFault("note 4 1/4;", 1, 5);
        Checks.dueFault("note c++4 1/4;", 1, 7);
        Checks.dueFault("note c4 1/4", 1, 11);
        Checks.dueFault("note c4 1/4  ", 1, 13);
        Checks.dueFault("note c4 1 4;", 1, 10);
        Checks.dueFault("note c4 1/4;;", 1, 12);
        Checks.dueFault("key +3;", 1, 4);
        Checks.dueFault("key --3;", 1, 5);
        Checks.dueFault("key -3", 1, 6);
        Checks.dueFault("key;", 1, 3);
        Checks.dueFault("speed\t60;", 1, 5);
        Checks.dueFault("speed x;", 1, 6);
        Checks.dueFault("rest a/4;", 1, 5);
        Checks.dueFault("rest 1/four;", 1, 7);
        Checks.dueFault("note c4 1/4 5;", 1, 12);
        OrnamentsOut x = Checks.song("  note   c+4 1 / 4gr d4e4tr up+down - nb ;key-0;");
        Checks.due("blanks stand between all, or nowhere", x.note(0, 0), 61);
        Checks.due("two GRACES", x.note(0, 3), 2);
        Checks.due("sign up", x.sign(0, 1, 2), 1);
        Checks.due("sign down", x.sign(0, 0, 2), -1);
        Checks.due("nb", x.note(0, 4), 1);
    }

    private static void bounds() {
        Checks.dueFault("key 8;", 2, 4);
        Checks.dueFault("key -8;", 2, 5);
        Checks.dueFault("meter 0/4;", 2, 6);
        Checks.dueFault("meter 17/4;", 2, 6);
        Checks.dueFault("meter 4/3;", 2, 8);
        Checks.dueFault("meter 4/32;", 2, 8);
        Checks.dueFault("meter 4/0;", 2, 8);
        Checks.dueFault("meter 17 4;", 2, 6);
        Checks.dueFault("speed 19;", 2, 6);
        Checks.dueFault("speed 401;", 2, 6);
        Checks.dueFault("speed 0100;", 2, 6);
        Checks.dueFault("speed 99999999999999;", 2, 6);
        Checks.dueFault("rest 0/4;", 2, 5);
        Checks.dueFault("rest 33/32;", 2, 5);
        Checks.dueFault("rest 1/64;", 2, 7);
        Checks.dueFault("rest 1/0001;", 2, 7);
        Checks.dueFault("note c9 1/4;", 2, 6);
        Checks.dueFault("note c4 1/4 ap d9;", 2, 16);
        Checks.due("the edges stand", Checks.song("key 7;key -7;key 007;meter 16/1;meter 1/16;meter 16/16;"
            + "speed 20;speed 400;rest 32/32;note c0 1/32;note b8 31/32;").count(0), 3);
        Checks.due("a whole of 16 wholes", Checks.song("meter 16/1;note c4 16/1;").length(0, 0), 16);
    }

    private static void lines() {
        Checks.dueFault("rest 1/4; meter 3/4;", 3, 10);
        Checks.dueFault("rest 1/4; meter 3/4", 3, 10);
        Checks.dueFault("rest 1/4; meter 3;", 1, 17);
        Checks.dueFault("rest 1/4; meter 3/9;", 2, 18);
        Checks.dueFault("note c4 5/4;", 3, 0);
        Checks.dueFault("note c4 5/4 zz;", 3, 0);
        Checks.dueFault("note c4 5/4 gr zz;", 1, 15);
        Checks.dueFault("note c4 5/4 tr up;", 1, 17);
        Checks.dueFault("rest 3/4; rest 1/2;", 3, 10);
        Checks.dueFault("tie 1/4;", 3, 0);
        Checks.dueFault("tie 1/4", 3, 0);
        Checks.dueFault("key 1; rest 1/4; tie 1/4;", 3, 17);
        Checks.dueFault("note c4 1/2; tie 3/4;", 3, 13);
        Checks.dueFault("note c4 1/4 nb;", 3, 0);
        Checks.dueFault("note c4 1/4 mo nb;", 3, 0);
        Checks.dueFault("note c4 1/4 mo nb an;", 3, 0);
        Checks.dueFault("note c4 1/4 tr nb an;", 1, 18);
        Checks.dueFault("note c4 1/4 tr up+ up+;", 3, 0);
        Checks.dueFault("note c4 1/4 tr down+ up= down-;", 3, 0);
        Checks.dueFault("note c4 1/4 up +;", 1, 12);
        Checks.dueFault("note c4 1/4 gr;", 1, 14);
        Checks.dueFault("note c4 1/4 ap d4 e4;", 1, 18);
        Checks.dueFault("note c4 1/4 gr a4 b4 c4 d4 e4;", 1, 27);
        Checks.dueFault("note c4 5/4 gr a4 b4 c4 d4 e4;", 3, 0);
        Checks.dueFault("note c4 1/4 mo tr;", 1, 15);
        Checks.dueFault("note c4 1/4 tr sl;", 1, 15);
        Checks.dueFault("note c4 1/4 sl ap d4;", 1, 15);
        Checks.dueFault("rest 1/4 an;", 1, 9);
        String full = "rest 1/32;".repeat(48);
        Checks.due("48 NOTES", Checks.song(full).count(0), 48);
        Checks.dueFault(full + "rest 1/32;", 3, 480);
        Checks.dueFault(full + "note c4 1/32", 3, 480);
        Checks.dueFault(full + "note c4 1/33;", 2, 490);
        Checks.due("key, speed behind 48", Checks.song(full + "key 1;speed 60;").count(0), 48);
    }

    private static void ties() {
        OrnamentsOut x = Checks.song("note c4 1/2; tie 1/4; key 3; speed 60; tie 1/4; meter 2/4; tie 1/2; tie 1/8; note d4 1/8;");
        Checks.due("ties", x.note(0, 5), 4);
        Checks.dueFraction("length(0)", x.length(0, 0), x.length(0, 1), 13, 8);
        Checks.due("KEY at the NOTE", x.note(0, 6), 0);
        Checks.due("SPEED at the NOTE", x.note(0, 7), 100);
        Checks.due("BARS", x.count(2), 3);
        Checks.due("BAR of the next", x.note(1, 1), 2);
        Checks.due("a rest begins anew", Checks.song("rest 1/1; note c4 1/4; tie 1/4;").note(1, 5), 1);
    }

    private static void numbers() {
        OrnamentsOut x = Checks.song("note c0 1/8; note b+8 1/8; note c-0 1/8; note f=4 1/8; key 1; note f4 1/8; note f5 1/8;"
            + "note f+4 1/8; note f4 1/8; note f4 1/8;");
        int[] due = {12, 120, 11, 65, 65, 78, 66, 66, 66};
        for (int i = 0; i < due.length; i++) {
            Checks.due("number of " + i, x.note(i, 0), due[i]);
        }
        x = Checks.song("key -7; note c4 1/8; note d4 1/8; note e4 1/8; note f4 1/8; note g4 1/8; note a4 1/8; note b4 1/8;");
        int[] flats = {59, 61, 63, 64, 66, 68, 70};
        for (int i = 0; i < 7; i++) {
            Checks.due("flat " + i, x.note(i, 0), flats[i]);
        }
        x = Checks.song("key 3; note c4 1/8; note d4 1/8; note e4 1/8; note f4 1/8; note g4 1/8; note a4 1/8; note b4 1/8;");
        int[] sharps = {61, 62, 64, 66, 68, 69, 71};
        for (int i = 0; i < 7; i++) {
            Checks.due("sharp " + i, x.note(i, 0), sharps[i]);
        }
        x = Checks.song("note c4 1/4 gr d+4 c+4; note c4 1/4; note d4 1/4 gr d=4 d4; note d4 1/4; note c4 1/4; note c+4 3/4;"
            + "tie 1/4; note c4 1/4;");
        Checks.due("a NOTE's own P comes ahead of its PREFIX", x.note(0, 0), 60);
        Checks.due("a SIGN in PREFIX holds", x.note(1, 0), 61);
        Checks.due("till another one", x.note(3, 0), 62);
        Checks.due("in its own BAR alone", x.note(4, 0), 60);
        Checks.due("a tie begins a new BAR", x.note(6, 0), 60);
    }

    public static void main(String[] args) {
        aNewObject();
        feed();
        textAndFault();
        tokens();
        bounds();
        lines();
        ties();
        numbers();
        Checks.end("TextTest");
    }
}
