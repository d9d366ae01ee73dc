/** "A TEXT" of the terms, sentence by sentence: what can stand and what can't, the bounds of each number, the FAULTS. */
public final class BoundsTextTest {
    private static final int[] LOWERS = {1, 2, 4, 8, 16, 32};
    private static final String LETTERS = "cdefgab";
    private static final int[] NATURAL = {0, 2, 4, 5, 7, 9, 11};

    private static void good(String text, int notes) {
        OrnamentsOut x = new OrnamentsOut();
        Checks.due("text of '" + text + "'", Checks.text(x, text), notes);
        Checks.due("fault(0) of '" + text + "'", x.fault(0), 0);
        Checks.due("fault(1) of '" + text + "'", x.fault(1), -1);
    }

    private static void cant(String text, int place) {
        Checks.dueFault(text, 1, place);
    }

    private static void outOfBounds(String text, int place) {
        Checks.dueFault(text, 2, place);
    }

    private static void wrongLine(String text, int place) {
        Checks.dueFault(text, 3, place);
    }

    // ---- what may stand where

    private static void lines() {
        Sentences.of(Sentences.TEXT, "A TEXT: LINES, each with a ; behind:");
        good("", 0);
        good("     ", 0);
        good("key 1;", 0);
        good("key 1;rest 1/4;", 1);
        cant(";", 0);
        cant("key 1;;", 6);
        cant("key 1", 5);
        cant("key 1  ", 7);
        cant("key 1 rest 1/4;", 6);
        cant("key 1,", 5);
        cant("foo 1;", 0);
        cant("1;", 0);
        cant("key 1; tr;", 7);
    }

    private static void keyLine() {
        Sentences.of(Sentences.TEXT, "key [ - ] N |");
        good("key 3;key -3;", 0);
        cant("key;", 3);
        cant("key -;", 5);
        cant("key --3;", 5);
        cant("key +3;", 4);
        cant("key =3;", 4);
        cant("key 3-;", 5);
        cant("key 3 3;", 6);
        cant("key c;", 4);
        cant("key", 3);
        cant("key -", 5);
    }

    private static void meterLine() {
        Sentences.of(Sentences.TEXT, "meter N / N |");
        good("meter 3/4;", 0);
        cant("meter;", 5);
        cant("meter 3;", 7);
        cant("meter 3/;", 8);
        cant("meter /4;", 6);
        cant("meter 3//4;", 8);
        cant("meter 3-4;", 7);
        cant("meter 3 4;", 8);
        cant("meter -3/4;", 6);
        cant("meter 3/4/4;", 9);
        cant("meter 3/4 4;", 10);
        cant("meter", 5);
        cant("meter 3", 7);
        cant("meter 3/", 8);
        cant("meter 3/4", 9);
    }

    private static void speedLine() {
        Sentences.of(Sentences.TEXT, "speed N |");
        good("speed 60;", 0);
        cant("speed;", 5);
        cant("speed -60;", 6);
        cant("speed +60;", 6);
        cant("speed 60 60;", 9);
        cant("speed 60/4;", 8);
        cant("speed x;", 6);
        cant("speed", 5);
        cant("speed 60", 8);
    }

    private static void restLine() {
        Sentences.of(Sentences.TEXT, "rest F |");
        good("rest 1/4;", 1);
        cant("rest;", 4);
        cant("rest c4 1/4;", 5);
        cant("rest 1/4 gr c4;", 9);
        cant("rest 1/4 tr;", 9);
        cant("rest 1/4 nb;", 9);
        cant("rest 1/4 an;", 9);
        cant("rest 1/4 1/4;", 9);
        cant("rest", 4);
        cant("rest 1/4", 8);
    }

    private static void noteLine() {
        Sentences.of(Sentences.TEXT, "note P F [ PREFIX ] [ BODY { up SIGN | down SIGN } ] [ nb | an ] |");
        good("note c4 1/4;", 1);
        good("note c4 1/4 sl;", 1);
        good("note c4 1/4 mo;", 1);
        good("note c4 1/4 an;", 1);
        good("note c4 1/4 tr nb;", 1);
        good("note c4 1/4 sl an;", 1);
        good("note c4 1/4 gr d4 tr up+ down- nb;", 1);
        good("note c4 1/4 ap d4 mo down= up+ an;", 1);
        cant("note;", 4);
        cant("note 1/4;", 5);
        cant("note c4;", 7);
        cant("note c4 c4;", 8);
        cant("note 1/4 c4;", 5);
        cant("note c4 1/4 1/4;", 12);
        cant("note c4 1/4 c4;", 12);
        cant("note c4 1/4 sl sl;", 15);
        cant("note c4 1/4 gr d4 sl;", 18);
        cant("note c4 1/4 mo sl;", 15);
        cant("note c4 1/4 mo mo;", 15);
        cant("note c4 1/4 up+;", 12);
        cant("note c4 1/4 sl down+;", 15);
        cant("note c4 1/4 up+ mo;", 12);
        cant("note c4 1/4 mo an up+;", 18);
        cant("note c4 1/4 an mo;", 15);
        cant("note c4 1/4 an sl;", 15);
        cant("note c4 1/4 an an;", 15);
        cant("note c4 1/4 tr nb nb;", 18);
        cant("note c4 1/4 tr nb an;", 18);
        cant("note c4 1/4 an nb;", 15);
        cant("note c4 1/4 note;", 12);
        cant("note c4 1/4 rest 1/4;", 12);
    }

    private static void tieLine() {
        Sentences.of(Sentences.TEXT, "tie F.");
        good("note c4 1/4;tie 1/4;", 1);
        cant("note c4 1/4;tie;", 15);
        cant("note c4 1/4;tie c4 1/4;", 16);
        cant("note c4 1/4;tie 1/4 tr;", 20);
        cant("note c4 1/4;tie 1/4 an;", 20);
        cant("note c4 1/4;tie 1/4 1/4;", 20);
        cant("note c4 1/4;tie", 15);
        cant("note c4 1/4;tie 1/4", 19);
    }

    private static void aP() {
        Sentences.of(Sentences.TEXT, "P: a letter a to g [ SIGN ] N; SIGN: + - or =;");
        for (char letter = 'a'; letter <= 'z'; letter++) {
            if (letter <= 'g') {
                good("note " + letter + "4 1/4;", 1);
                good("note " + letter + "+4 1/4 gr " + letter + "-4;", 1);
                good("note " + letter + "=4 1/4 ap " + letter + "4;", 1);
            } else {
                cant("note " + letter + "4 1/4;", 5);
                cant("note c4 1/4 gr " + letter + "4;", 15);
                cant("note c4 1/4 ap " + letter + "4;", 15);
            }
        }
        cant("note C4 1/4;", 5);
        cant("note `4 1/4;", 5);
        cant("note +4 1/4;", 5);
        cant("note 4 1/4;", 5);
        cant("note c 1/4;", 8);
        cant("note c+ 1/4;", 9);
        cant("note c++4 1/4;", 7);
        cant("note c+-4 1/4;", 7);
        cant("note c4+ 1/4;", 7);
        cant("note c#4 1/4;", 6);
        cant("note c*4 1/4;", 6);
        cant("note c,4 1/4;", 6);
        cant("note c<4 1/4;", 6);
        cant("note c>4 1/4;", 6);
        cant("note cd4 1/4;", 5);
        cant("note c", 6);
        cant("note c+", 7);
        cant("note c+4", 8);
    }

    private static void anF() {
        Sentences.of(Sentences.TEXT, "F: N / N.");
        cant("rest 1;", 6);
        cant("rest 1/;", 7);
        cant("rest /4;", 5);
        cant("rest 1//4;", 7);
        cant("rest 1.4;", 6);
        outOfBounds("rest 104;", 5);
        cant("rest -1/4;", 5);
        cant("rest 1/-4;", 7);
        cant("rest 1", 6);
        cant("rest 1/", 7);
        cant("note c4 1;", 9);
        cant("note c4 1/;", 10);
        cant("note c4 1/x;", 10);
        cant("note c4 1/4;tie 1;", 17);
        cant("note c4 1/4;tie 1/;", 18);
    }

    private static void prefixes() {
        Sentences.of(Sentences.TEXT, "PREFIX: gr P { P } | ap P | sl.");
        good("note c4 1/4 gr d4;", 1);
        good("note c4 1/4 gr d4 e4;", 1);
        good("note c4 1/4 ap d4;", 1);
        good("note c4 1/4 sl;", 1);
        cant("note c4 1/4 gr;", 14);
        cant("note c4 1/4 gr", 14);
        cant("note c4 1/4 gr tr;", 15);
        cant("note c4 1/4 gr 4;", 15);
        cant("note c4 1/4 gr d;", 16);
        cant("note c4 1/4 gr d4 e;", 19);
        cant("note c4 1/4 gr d4 +4;", 18);
        cant("note c4 1/4 gr d4 4;", 18);
        cant("note c4 1/4 ap;", 14);
        cant("note c4 1/4 ap", 14);
        cant("note c4 1/4 ap tr;", 15);
        cant("note c4 1/4 ap d4 e4;", 18);
        cant("note c4 1/4 sl d4;", 15);
    }

    private static void bodies() {
        Sentences.of(Sentences.TEXT, "BODY: tr | mo | pr | tu | dt | it | lm | dc.");
        String[] words = {"tr", "mo", "pr", "tu", "dt", "it", "lm", "dc"};
        for (int kind = 1; kind <= 8; kind++) {
            OrnamentsOut x = Checks.song("note c4 1/4 " + words[kind - 1] + ";");
            Checks.due("BODY of " + words[kind - 1], x.note(0, 2), kind);
            good("note c4 1/4 " + words[kind - 1] + " up+;", 1);
            good("note c4 1/4 " + words[kind - 1] + " down-up=;", 1);
            cant("note c4 1/4 " + words[kind - 1] + " up;", 17);
            cant("note c4 1/4 " + words[kind - 1] + " down", 19);
            cant("note c4 1/4 " + words[kind - 1] + " up 1;", 18);
            cant("note c4 1/4 " + words[kind - 1] + " up+ down nb;", 24);
            cant("note c4 1/4 " + words[kind - 1] + " +;", 15);
        }
        for (String word : new String[] {"rt", "tm", "mp", "td", "ti", "il", "cd", "tt", "t", "m", "trr", "mordent", "nn", "bn", "na"}) {
            cant("note c4 1/4 " + word + ";", 12);
        }
    }

    // ---- tokens

    private static void words() {
        Sentences.of(Sentences.TEXT, "Words (a to z, as long as they go on; a letter of P is one of one letter),");
        cant("keys 1;", 0);
        cant("ke 1;", 0);
        cant("k 1;", 0);
        cant("ke y 1;", 0);
        cant("Key 1;", 0);
        cant("keY 1;", 0);
        cant("keya 1;", 0);
        cant("keyz 1;", 0);
        cant("akey 1;", 0);
        cant("zkey 1;", 0);
        cant("note cz4 1/4;", 5);
        cant("note ca4 1/4;", 5);
        cant("ke`1;", 0);
        cant("key{1;", 3);
        cant("key`1;", 3);
        cant("notec4 1/4;", 0);
        cant("note cc4 1/4;", 5);
        cant("note c4 1/4 trmo;", 12);
        cant("note c4 1/4 trup+;", 12);
        cant("note c4 1/4 grd4;", 12);
        cant("note c4 1/4 gr d4e;", 18);
        cant("note c4 1/4 gr d4tre;", 17);
        cant("note c4 1/4 tr upp+;", 15);
        cant("note c4 1/4 tr nban;", 15);
        cant("note c4 1/4 tr nbn;", 15);
        good("note c4 1/4 gr d4e4tr up+down-nb;", 1);
        good("key1;speed60;meter4/4;rest1/4;", 1);
    }

    private static void numbers() {
        Sentences.of(Sentences.TEXT, "numbers (0 to 9, likewise),");
        Checks.due("16/32", Checks.song("rest 16/32;").length(0, 1), 2);
        cant("rest 1 6/32;", 7);
        outOfBounds("rest 16/3 2;", 8);
        cant("rest 1/:;", 7);
        cant("rest :/4;", 5);
        cant("rest 1/4:", 8);
        Checks.due("digits 0 to 9", Checks.song("speed 102;speed 345;speed 367;speed 289;rest 1/4;").note(0, 7), 289);
        outOfBounds("note c41/4;", 6);
    }

    private static void otherBytes() {
        Sentences.of(Sentences.TEXT, "other bytes one by one;");
        cant("key --1;", 5);
        cant("rest 1//4;", 7);
        cant("rest 1/4;;", 9);
        for (int one = 0; one < 256; one++) {
            boolean known = one == ' ' || one == ';' || one >= '0' && one <= '9' || one >= 'a' && one <= 'z';
            if (!known) {
                cant((char) one + "rest 1/4;", 0);
                cant("rest" + (char) one + "1/4;", 4);
                cant("rest 1/4" + (char) one + ";", 8);
            }
        }
    }

    private static void blanks() {
        Sentences.of(Sentences.TEXT, "blanks (32) may stand between all.");
        String line = "note c + 4 1 / 4 gr d = 5 e - 3 tr up + down - nb ; key - 3 ; meter 3 / 4 ;";
        Checks.due("one blank", Checks.song("note c+4 1/1 sl;" + line.replace("key", "rest 3/4;key")).count(0), 3);
        OrnamentsOut x = Checks.song(line.substring(0, line.indexOf("meter")).replace(" ", "     "));
        Checks.due("five blanks: number", x.note(0, 0), 61);
        Checks.due("five blanks: PREFIX", x.note(0, 3), 2);
        Checks.due("five blanks: nb", x.note(0, 4), 1);
        x = Checks.song("note c+4 1/4gr d=5e-3tr up+down-nb;key-3;");
        Checks.due("as few as can be: number", x.note(0, 0), 61);
        Checks.due("as few as can be: PREFIX", x.note(0, 3), 2);
        good("          ", 0);
        good("   rest 1/4;   ", 1);
        cant("re st 1/4;", 0);
        cant("rest\t1/4;", 4);
        cant("rest 1/4;\n", 9);
        cant("rest 1/4;\0", 9);
        cant("rest 1/4;\u00a0", 9);
    }

    // ---- bounds

    private static void keys() {
        Sentences.of(Sentences.TEXT, "KEY -7 to 7 (0 at first): so many flats (below 0: of b e a d g c f, in this order)"
            + " or sharps (of f c g d a e b), from there on.");
        for (int key = -7; key <= 7; key++) {
            OrnamentsOut x = Checks.song("key " + key + ";note c4 1/8;note d4 1/8;note e4 1/8;note f4 1/8;note g4 1/8;note a4 1/8;"
                + "note b4 1/8;");
            for (int letter = 0; letter < 7; letter++) {
                int flat = "beadgcf".indexOf(LETTERS.charAt(letter)) < -key ? 1 : 0;
                int sharp = "fcgdaeb".indexOf(LETTERS.charAt(letter)) < key ? 1 : 0;
                Checks.due("KEY " + key + ", " + LETTERS.charAt(letter), x.note(letter, 0), 60 + NATURAL[letter] - flat + sharp);
                Checks.due("note(" + letter + ", 6)", x.note(letter, 6), key);
            }
        }
        outOfBounds("key 8;", 4);
        outOfBounds("key -8;", 5);
        outOfBounds("key 999;", 4);
        outOfBounds("key -999;", 5);
        Checks.due("KEY -0", Checks.song("key 3;key -0;note f4 1/4;").note(0, 6), 0);
        OrnamentsOut x = Checks.song("note f4 1/4;key 1;note f4 1/4;key -7;note f4 1/4;");
        Checks.due("0 at first", x.note(0, 0), 65);
        Checks.due("from there on", x.note(1, 0), 66);
        Checks.due("till another one", x.note(2, 0), 64);
        Checks.text(x, "note f4 1/4;");
        Checks.due("0 at first in each text", x.note(0, 0), 65);
    }

    private static void meters() {
        Sentences.of(Sentences.TEXT, "METER: 1 to 16 by 1, 2, 4, 8, 16 (4 by 4 at first): from there on, only where a BAR begins:"
            + " so long is a BAR.");
        for (int upper = 1; upper <= 16; upper++) {
            for (int i = 0; i < 5; i++) {
                String meter = upper + "/" + LOWERS[i];
                OrnamentsOut x = Checks.song("meter " + meter + ";rest " + meter + ";rest 1/32;");
                Checks.due("BARS of METER " + meter, x.count(2), 2);
                Checks.due("how long one is", x.bar(0, 2) * LOWERS[i], upper * x.bar(0, 3));
                String line = "meter " + meter + ";rest 1/32;";
                wrongLine(line + "rest " + meter + ";", line.length());
            }
        }
        outOfBounds("meter 0/4;", 6);
        outOfBounds("meter 17/4;", 6);
        for (int lower : new int[] {0, 3, 5, 6, 7, 9, 12, 15, 17, 24, 32, 64, 999}) {
            outOfBounds("meter 4/" + lower + ";", 8);
        }
        good("rest 1/1;", 1);
        wrongLine("rest 9/8;", 0);
        good("meter 3/4;meter 2/4;rest 2/4;meter 5/4;meter 1/4;rest 1/4;meter 1/1;", 2);
        wrongLine("meter 3/4;meter 2/4;rest 3/4;", 20);
        good("note c4 1/2;tie 1/2;meter 2/4;", 1);
        wrongLine("note c4 31/32;meter 2/4;", 14);
        wrongLine("note c4 1/1;tie 1/32;meter 4/4;", 21);
        OrnamentsOut x = Checks.song("meter 1/16;rest 1/16;");
        Checks.text(x, "rest 1/1;");
        Checks.due("4 by 4 at first in each text", x.count(0), 1);
    }

    private static void speeds() {
        Sentences.of(Sentences.TEXT, "SPEED 20 to 400 (100 at first): quarters in a minute, from there on.");
        outOfBounds("speed 19;", 6);
        outOfBounds("speed 401;", 6);
        outOfBounds("speed 0;", 6);
        outOfBounds("speed 999;", 6);
        OrnamentsOut x = Checks.song("rest 1/4;speed 20;rest 1/4;speed 400;rest 1/4;speed 60;rest 1/4;rest 1/4;");
        int[] speeds = {100, 20, 400, 60, 60};
        int[] milliseconds = {600, 3000, 150, 1000, 1000};
        for (int i = 0; i < 5; i++) {
            Checks.due("SPEED of " + i, x.note(i, 7), speeds[i]);
            Checks.due("milliseconds of " + i, x.milliseconds(i), milliseconds[i]);
        }
        Checks.text(x, "rest 1/4;");
        Checks.due("100 at first in each text", x.note(0, 7), 100);
    }

    private static void lengths() {
        Sentences.of(Sentences.TEXT, "F: 1 to 32 by 1, 2, 4, 8, 16, 32: parts of a whole.");
        for (int lower : LOWERS) {
            for (int upper = 1; upper <= 32; upper++) {
                String text = "meter 16/1;note c4 " + upper + "/" + lower + ";";
                if (upper > 16 * lower) {
                    wrongLine(text, 11);
                } else {
                    OrnamentsOut x = Checks.song(text);
                    Checks.due(text, x.length(0, 0) * lower, upper * x.length(0, 1));
                }
            }
            good("meter 16/1;rest 1/" + lower + ";", 1);
            good("meter 16/1;note c4 1/1;tie 1/" + lower + ";", 1);
            if (lower > 1) {
                good("meter 16/1;rest 32/" + lower + ";", 1);
                good("meter 16/1;note c4 16/1;tie 32/" + lower + ";", 1);
            }
            outOfBounds("rest 0/" + lower + ";", 5);
            outOfBounds("rest 33/" + lower + ";", 5);
            outOfBounds("note c4 0/" + lower + ";", 8);
            outOfBounds("note c4 33/" + lower + ";", 8);
            outOfBounds("note c4 1/4;tie 0/" + lower + ";", 16);
            outOfBounds("note c4 1/4;tie 33/" + lower + ";", 16);
        }
        for (int lower : new int[] {0, 3, 5, 6, 7, 9, 12, 15, 17, 24, 31, 33, 64, 999}) {
            outOfBounds("rest 1/" + lower + ";", 7);
            outOfBounds("note c4 1/" + lower + ";", 10);
            outOfBounds("note c4 1/4;tie 1/" + lower + ";", 18);
        }
    }

    private static void notes() {
        Sentences.of(Sentences.TEXT, "NOTES, 48 at most, from 0 on: notes and rests; none goes beyond its BAR.");
        String rests = "rest 1/32;".repeat(48);
        String notes = "note c4 1/32;".repeat(48);
        OrnamentsOut x = Checks.song(notes);
        Checks.due("48 notes", x.count(0), 48);
        Checks.due("the first one", x.note(0, 0), 60);
        Checks.due("the last one", x.note(47, 0), 60);
        Checks.due("behind it", x.note(48, 0), -2);
        Checks.due("48 rests", Checks.song(rests).count(0), 48);
        Checks.due("24 of each", Checks.song("rest 1/32;note c4 1/32;".repeat(24)).count(0), 48);
        wrongLine(rests + "rest 1/32;", 480);
        wrongLine(rests + "note c4 1/32;", 480);
        wrongLine(notes + "note c4 1/32;", 624);
        wrongLine(notes + "rest 1/32;", 624);
        good("rest 1/1;rest 1/2;rest 1/2;", 3);
        good("note c4 31/32;note c4 1/32;note c4 1/1;", 3);
        wrongLine("note c4 31/32;note c4 1/16;", 14);
        wrongLine("rest 31/32;rest 1/16;", 11);
        wrongLine("meter 1/16;note c4 3/32;", 11);
    }

    private static void ties() {
        Sentences.of(Sentences.TEXT, "A tie makes the NOTE ahead longer (it must be a note, the latest LINE but for key, speed, meter);"
            + " it doesn't go beyond its BAR either, but may begin a new one.");
        wrongLine("tie 1/4;", 0);
        wrongLine("key 1;speed 60;meter 4/4;tie 1/4;", 25);
        wrongLine("rest 1/4;tie 1/4;", 9);
        wrongLine("note c4 1/4;rest 1/4;tie 1/4;", 21);
        wrongLine("note c4 1/4;rest 1/4;key 1;tie 1/4;", 27);
        OrnamentsOut x = Checks.song("note c4 1/1;key 1;speed 60;meter 3/4;key 2;tie 1/4;rest 1/2;");
        Checks.dueFraction("longer", x.length(0, 0), x.length(0, 1), 5, 4);
        Checks.due("one tie", x.note(0, 5), 1);
        Checks.due("no NOTE of its own", x.count(0), 2);
        Checks.due("it began a BAR", x.count(2), 2);
        good("note c4 1/2;tie 1/2;", 1);
        wrongLine("note c4 1/2;tie 17/32;", 12);
        wrongLine("note c4 1/1;tie 17/16;", 12);
        wrongLine("note c4 1/1;meter 1/4;tie 9/32;", 22);
        good("note c4 1/1;meter 1/4;tie 8/32;", 1);
        x = Checks.song("note c4 1/32;".repeat(48) + "tie 1/2;tie 1/1;tie 1/1;");
        Checks.due("ties behind the 48th NOTE", x.note(47, 5), 3);
        Checks.dueFraction("its length", x.length(47, 0), x.length(47, 1), 81, 32);
    }

    private static void graces() {
        Sentences.of(Sentences.TEXT, "gr has 1 to 4 P.");
        cant("note c4 1/4 gr;", 14);
        String line = "note c4 1/4 gr";
        for (int many = 1; many <= 4; many++) {
            line = line + " d4";
            Checks.due("PREFIX gr of " + many, Checks.song(line + ";").note(0, 3), many);
            good(line + " tr an;", 1);
        }
        cant(line + " d4;", 27);
        cant(line + " d;", 27);
        cant(line + " d4 d4;", 27);
    }

    private static void numbersOfP() {
        Sentences.of(Sentences.TEXT, "The number of P: 12 times (its octave 0 to 8 and 1) and 0, 2, 4, 5, 7, 9, 11 of c, d, e, f, g, a, b,"
            + " and 1 by +, less 1 by -, as it is by =;");
        for (int octave = 0; octave <= 8; octave++) {
            for (int letter = 0; letter < 7; letter++) {
                String p = "note " + LETTERS.charAt(letter);
                OrnamentsOut x = Checks.song(p + octave + " 1/8;" + p + "+" + octave + " 1/8;" + p + "-" + octave + " 1/8;"
                    + p + "=" + octave + " 1/8;");
                int number = 12 * (octave + 1) + NATURAL[letter];
                Checks.due(p + octave, x.note(0, 0), number);
                Checks.due(p + "+" + octave, x.note(1, 0), number + 1);
                Checks.due(p + "-" + octave, x.note(2, 0), number - 1);
                Checks.due(p + "=" + octave, x.note(3, 0), number);
            }
        }
        outOfBounds("note c9 1/4;", 6);
        outOfBounds("note c+9 1/4;", 7);
        outOfBounds("note c10 1/4;", 6);
        outOfBounds("note c4 1/4 gr d9;", 16);
        outOfBounds("note c4 1/4 gr d4 d-9;", 20);
        outOfBounds("note c4 1/4 ap d9;", 16);
        cant("note c-1/4;", 8);
        Checks.due("least", Checks.song("note c-0 1/4;").note(0, 0), 11);
        Checks.due("greatest", Checks.song("note b+8 1/4;").note(0, 0), 120);
    }

    private static void signsOfTheBar() {
        Sentences.of(Sentences.TEXT, "without SIGN as the latest P of that letter and octave in this BAR that had one (also in PREFIX) told,"
            + " else by the KEY.");
        OrnamentsOut x = Checks.song("note c+4 1/8;note c5 1/8;note d4 1/8;note c4 1/8;note c4 1/8;note c=4 1/8;note c4 1/8;note c-4 1/8;"
            + "note c4 1/8;");
        int[] due = {61, 72, 62, 61, 61, 60, 60, 59, 60};
        for (int i = 0; i < due.length; i++) {
            Checks.due("number of " + i, x.note(i, 0), due[i]);
        }
        x = Checks.song("key 2;note c=4 1/4;key 7;note c4 1/4;note f4 1/4;note c5 1/4;note c4 1/4;");
        int[] byKey = {60, 60, 66, 73, 61};
        for (int i = 0; i < byKey.length; i++) {
            Checks.due("number of " + i + " with KEYS", x.note(i, 0), byKey[i]);
        }
        x = Checks.song("note c+0 1/8;note c0 1/8;note b-8 1/8;note b8 1/8;note c1 1/8;note b7 1/8;");
        int[] atTheEnds = {13, 13, 118, 118, 24, 107};
        for (int i = 0; i < atTheEnds.length; i++) {
            Checks.due("number of " + i + " at the ends", x.note(i, 0), atTheEnds[i]);
        }
        x = Checks.song("note c4 1/4 gr c+4 c4;note c4 1/4 ap c-4;note c4 1/4 gr c4 c=4 c4;note c4 1/4;");
        int[] byPrefix = {60, 61, 59, 60};
        for (int i = 0; i < byPrefix.length; i++) {
            Checks.due("number of " + i + " behind PREFIXES", x.note(i, 0), byPrefix[i]);
        }
        Checks.due("a P of PREFIX as the one ahead in it", x.sounds(1, 0), 61);
        x = Checks.song("note c+4 3/4;tie 1/4;tie 1/4;note c4 1/4;");
        Checks.due("behind a tie into a new BAR", x.note(1, 0), 60);
        x = Checks.song("note c4 1/1 gr d+4;note d4 1/4;");
        Checks.due("PREFIX tells in its own BAR alone", x.note(1, 0), 62);
        x = Checks.song("note c+4 1/4;");
        Checks.text(x, "note c4 1/4;");
        Checks.due("not in the next text", x.note(0, 0), 60);
    }

    // ---- faults

    private static void theFirstFault() {
        Sentences.of(Sentences.TEXT, "FAULTS, the first along the text (3 of a LINE is asked behind its last token, ahead of its ;,"
            + " but told at its word):");
        outOfBounds("key 8;foo;", 4);
        cant("foo;key 8;", 0);
        wrongLine("tie 1/4;foo;", 0);
        wrongLine("tie 1/4;key 8;", 0);
        outOfBounds("key 8 tie 1/4;", 4);
        wrongLine("   tie 1/4;", 3);
        wrongLine("tie 1/4", 0);
        wrongLine("tie 1/4 foo", 0);
        cant("tie 1/x;", 6);
        outOfBounds("tie 1/5;", 6);
        cant("tie 1", 5);
        wrongLine("rest 5/4", 0);
        wrongLine("rest 5/4 tr;", 0);
        cant("rest 5;", 6);
        wrongLine("rest 1/4;meter 3/4", 9);
        wrongLine("rest 1/4;meter 3/4/;", 9);
        cant("rest 1/4;meter 3;", 16);
        outOfBounds("rest 1/4;meter 17/4;", 15);
        wrongLine("note c4 5/4", 0);
        wrongLine("note c4 5/4 foo;", 0);
        wrongLine("note c4 5/4 sl foo;", 0);
        wrongLine("note c4 5/4 tr foo;", 0);
        wrongLine("note c4 5/4 tr up+ nb foo;", 0);
        cant("note c4 5/4 gr;", 14);
        outOfBounds("note c4 5/4 gr d9;", 16);
        cant("note c4 5/4 tr up;", 17);
        wrongLine("note c4 1/4 nb foo;", 0);
        wrongLine("note c4 1/4 tr up+ up+ foo;", 0);
        cant("note c4 1/4 tr up+ up+ up;", 25);
    }

    private static void fault1() {
        Sentences.of(Sentences.TEXT, "1 what can't stand there (at it; the end: how many bytes there are),");
        String line = "key - 3 ; meter 3 / 4 ; speed 60 ; rest 1 / 4 ; note c + 4 1 / 4 gr d = 5 e 5 tr up + down - nb ; tie 1 / 4 ;";
        for (int n = 1; n < line.length(); n++) {
            if (line.charAt(n) == ' ' && line.charAt(n - 1) != ';') {
                cant(line.substring(0, n), n);
                cant(line.substring(0, n) + "   ", n + 3);
                cant(line.substring(0, n) + " ?", n + 1);
            }
        }
        OrnamentsOut x = new OrnamentsOut();
        Checks.feed(x, "rest 1/4;");
        Checks.due("of the first n bytes", x.text(4), -31);
        Checks.due("the end is at n", x.fault(1), 4);
        cant("rest 1/4", 8);
        String most = " ".repeat(796) + "rest";
        cant(most, 800);
        cant(" ".repeat(799) + ";", 799);
    }

    private static void fault2() {
        Sentences.of(Sentences.TEXT, "2 a number out of its bounds, or of more than 3 digits (at it),");
        good("key 007;key -007;speed 020;speed 400;meter 004/004;", 0);
        good("rest 001/004;note c008 024/032 gr d000;", 2);
        outOfBounds("key 0007;", 4);
        outOfBounds("key -0007;", 5);
        outOfBounds("key 0000;", 4);
        outOfBounds("speed 0100;", 6);
        outOfBounds("speed 1000;", 6);
        outOfBounds("meter 0004/4;", 6);
        outOfBounds("meter 4/0004;", 8);
        outOfBounds("rest 0001/4;", 5);
        outOfBounds("rest 1/0004;", 7);
        outOfBounds("note c0004 1/4;", 6);
        outOfBounds("note c+0004 1/4;", 7);
        outOfBounds("note c4 0001/4;", 8);
        outOfBounds("note c4 1/0004;", 10);
        outOfBounds("note c4 1/4 gr d0004;", 16);
        outOfBounds("note c4 1/4 ap d0004;", 16);
        outOfBounds("note c4 1/4;tie 0001/4;", 16);
        outOfBounds("note c4 1/4;tie 1/0004;", 18);
        outOfBounds("key 4294967296;", 4);
        outOfBounds("speed 4294967396;", 6);
        outOfBounds("key " + "0".repeat(700) + ";", 4);
        outOfBounds("key " + "9".repeat(796), 4);
        outOfBounds("rest 1/" + "1".repeat(700), 7);
    }

    private static void fault3() {
        Sentences.of(Sentences.TEXT, "3 meter where no BAR begins, a NOTE, a tie that goes beyond its BAR, a tie without a note, a 49th NOTE,"
            + " nb without tr, dc, up or down told twice");
        wrongLine("rest 1/32;meter 4/4;", 10);
        wrongLine("rest 17/16;", 0);
        wrongLine("note c4 17/16;", 0);
        wrongLine("note c4 1/1;tie 17/16;", 12);
        wrongLine("rest 1/4;tie 1/4;", 9);
        wrongLine("rest 1/32;".repeat(48) + "rest 1/32", 480);
        good("rest 1/32;".repeat(48) + "key 1;speed 60;", 48);
        wrongLine("rest 1/32;".repeat(48) + "tie 1/32;", 480);
        for (String body : new String[] {"", "mo", "pr", "tu", "dt", "it", "lm"}) {
            wrongLine("note c4 1/4 " + body + " nb;", 0);
            wrongLine("note c4 1/4 sl " + body + " nb;", 0);
        }
        good("note c4 1/4 tr nb;note c4 1/4 dc nb;", 2);
        good("note c4 1/4 mo up+ down+;note c4 1/4 mo down+ up+;", 2);
        for (String twice : new String[] {"up+up+", "up+up-", "down=down=", "up+down+up+", "down+up+down-", "up+down-down+", "up=up=up="}) {
            wrongLine("note c4 1/4 tr " + twice + ";", 0);
            wrongLine("note c4 1/4 mo " + twice + " an;", 0);
        }
        OrnamentsOut x = new OrnamentsOut();
        Checks.due("told twice", Checks.text(x, "note c4 1/4 tr up+up+;"), -33);
        Checks.due("the next text tells none", Checks.text(x, "note c4 1/4;"), 1);
        Checks.due("nor once", Checks.text(x, "note c4 1/4 tr up+;note c4 1/4 tr up+;"), 2);
    }

    private static void aFifthP() {
        Sentences.of(Sentences.TEXT, "(by PREFIX gr a fifth P can't stand there).");
        cant("note c4 1/4 gr a4 b4 c4 d4 e4;", 27);
        cant("note c4 1/4 gr a4 b4 c4 d4 e+4 f4;", 27);
        cant("note c4 1/4 gr a4b4c4d4e4;", 23);
    }

    private static void terms() {
        Sentences.of(Sentences.TEXT, "TERMS (least to greatest; at first): 0 LIMIT 20 to 250 (70), 1 TONE 8, 16, 32, 64 (32; others can't be),"
            + " 2 AHEAD 0, 1 (1), 3 HOLD 0, 1 (1), 4 AFTER 0, 1 (0), 5 PERCENT 25 to 400 (100), 6 STYLE 0, 1 (0).");
        int[] first = {70, 32, 1, 1, 0, 100, 0};
        int[] least = {20, 8, 0, 0, 0, 25, 0};
        int[] most = {250, 64, 1, 1, 1, 400, 1};
        for (int what = 0; what < 7; what++) {
            OrnamentsOut x = new OrnamentsOut();
            Checks.due("TERM " + what + " at first", x.count(10 + what), first[what]);
            int now = first[what];
            for (int v = -10; v <= 420; v++) {
                boolean may = what == 1 ? v == 8 || v == 16 || v == 32 || v == 64 : v >= least[what] && v <= most[what];
                Checks.due("terms(" + what + ", " + v + ")", x.terms(what, v), may ? now : -3);
                now = may ? v : now;
            }
            Checks.due("TERM " + what + " at last", x.count(10 + what), most[what]);
        }
    }

    public static void main(String[] args) {
        lines();
        keyLine();
        meterLine();
        speedLine();
        restLine();
        noteLine();
        tieLine();
        aP();
        anF();
        prefixes();
        bodies();
        words();
        numbers();
        otherBytes();
        blanks();
        keys();
        meters();
        speeds();
        lengths();
        notes();
        ties();
        graces();
        numbersOfP();
        signsOfTheBar();
        theFirstFault();
        fault1();
        fault2();
        fault3();
        aFifthP();
        terms();
        Sentences.end("BoundsTextTest");
    }
}
