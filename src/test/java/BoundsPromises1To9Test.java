/** Promises 1 to 9, sentence by sentence: a new object, feed, text, fault, terms, body, sign, bare, after. */
public final class BoundsPromises1To9Test {
    private static final int LEAST = Integer.MIN_VALUE;
    private static final int GREATEST = Integer.MAX_VALUE;
    private static final String[] BODIES = {"", "tr", "mo", "pr", "tu", "dt", "it", "lm", "dc"};

    private static OrnamentsOut x;

    private static int blanks() {
        return x.feed(0x20202020, 0x20202020, 0x20202020, 0x20202020, 0x20202020);
    }

    private static void promise1NoNotes() {
        Sentences.of(1, "No NOTES.");
        x = new OrnamentsOut();
        for (int what = 0; what <= 7; what++) {
            Checks.due("count(" + what + ")", x.count(what), 0);
        }
        Checks.due("count(8)", x.count(8), 1);
        int[] terms = {70, 32, 1, 1, 0, 100, 0};
        for (int what = 0; what < 7; what++) {
            Checks.due("TERM " + what, x.count(10 + what), terms[what]);
        }
        Checks.due("fault(0)", x.fault(0), 0);
        Checks.due("fault(1)", x.fault(1), -1);
        Checks.due("note(0, 0)", x.note(0, 0), -2);
        Checks.due("milliseconds(0)", x.milliseconds(0), -2);
        Checks.due("sounds(0, 0)", x.sounds(0, 0), -100);
        Checks.due("when(0, 0, 0)", x.when(0, 0, 0), -2);
        Checks.due("called(0, 0)", x.called(0, 0), -2);
        Checks.due("at(0, 1)", x.at(0, 1), -1);
        Checks.due("bar(0, 0)", x.bar(0, 0), -2);
        Checks.due("would(100, 0)", x.would(100, 0), 0);
        Checks.due("would(25, 1)", x.would(25, 1), 0);
        Checks.due("would(400, 2)", x.would(400, 2), 0);
        Checks.due("fastest()", x.fastest(), 400);
        Checks.due("quick()", x.quick(), 0);
        Checks.due("greediest()", x.greediest(), -1);
        OrnamentsOut other = Checks.song("note c4 1/4;");
        other.terms(0, 99);
        Checks.due("another object's NOTES aren't its own", x.count(0), 0);
        Checks.due("nor its TERMS", x.count(10), 70);
    }

    private static void promise2TwentyBytesTheHighestFirst() {
        Sentences.of(2, "Twenty bytes come behind those on THE TAPE, the highest of each int first: how many it has.");
        x = new OrnamentsOut();
        // "rest 1/4;note c+4 1/" and "8;key 1;speed 60;   "
        Checks.due("the first twenty", x.feed(0x72657374, 0x20312f34, 0x3b6e6f74, 0x6520632b, 0x3420312f), 20);
        Checks.due("twenty behind them", x.feed(0x383b6b65, 0x7920313b, 0x73706565, 0x64203630, 0x3b202020), 40);
        Checks.due("they are read in this order", x.text(40), 2);
        Checks.due("c+4", x.note(1, 0), 61);
        Checks.due("behind text() the first again", x.feed(0x80000000, 0, 0, 0, 0), 20);
        Checks.due("byte 128 can't stand", x.text(1), -31);
        x.feed(LEAST, GREATEST, -1, 0, 1);
        Checks.due("any ints", x.count(3), 20);
        x.text(0);
        x.feed(0x20202020, 0x20202020, 0x20202020, 0x20202020, 0x2020203b);
        Checks.due("the lowest of the last int is the last", x.text(20), -31);
        Checks.due("its place", x.fault(1), 19);
        x.feed(0x3b202020, 0x20202020, 0x20202020, 0x20202020, 0x20202020);
        Checks.due("the highest of the first int is the first", x.text(20), -31);
        Checks.due("its place", x.fault(1), 0);
    }

    private static void promise2MoreThan800() {
        Sentences.of(2, "-4: it would have more than 800.");
        x = new OrnamentsOut();
        for (int i = 1; i <= 39; i++) {
            Checks.due("feed " + i, blanks(), 20 * i);
        }
        Checks.due("the 40th: 800", x.feed(0x20202020, 0x20202072, 0x65737420, 0x20202031, 0x2f34203b), 800);
        Checks.due("the 41st", x.feed(0x3b3b3b3b, 0x3b3b3b3b, 0x3b3b3b3b, 0x3b3b3b3b, 0x3b3b3b3b), -4);
        Checks.due("the 42nd", x.feed(LEAST, GREATEST, 0, 0, 0), -4);
        Checks.due("THE TAPE has 800", x.count(3), 800);
        Checks.due("as they were", x.text(800), 1);
        Checks.due("it is empty", x.count(3), 0);
        Checks.due("and takes twenty again", blanks(), 20);
    }

    private static void promise3TheFirstNBytes() {
        Sentences.of(3, "The first n bytes of THE TAPE (which is empty then) are the TEXT (TERMS stay): how many NOTES.");
        String line = "rest 1/4;rest 1/4; n";
        int[] due = {0, -31, -31, -31, -31, -31, -31, -31, -31, 1, -31, -31, -31, -31, -31, -31, -31, -31, 2, 2, -31};
        for (int n = 0; n <= 20; n++) {
            x = Checks.song("note c4 1/4;note d4 1/4;note e4 1/4;");
            x.terms(0, 99);
            Checks.feed(x, line);
            Checks.due("text(" + n + ")", x.text(n), due[n]);
            Checks.due("THE TAPE is empty", x.count(3), 0);
            Checks.due("NOTES", x.count(0), due[n] < 0 ? 3 : due[n]);
            Checks.due("TERMS stay", x.count(10), 99);
        }
        Checks.due("text(0) of an empty TAPE", x.text(0), 0);
        Checks.due("no NOTES then", x.count(0), 0);
        x = new OrnamentsOut();
        Checks.due("0 NOTES", Checks.text(x, "key 1;"), 0);
        Checks.due("48 NOTES", Checks.text(x, "rest 1/32;".repeat(48)), 48);
        Checks.due("800 bytes", Checks.text(x, "rest 1/4;" + " ".repeat(791)), 1);
        Checks.due("KEY, METER, SPEED are as at first", Checks.text(x, "key 1;speed 60;meter 1/4;"), 0);
        Checks.due("in each text", Checks.text(x, "note f4 1/1;"), 1);
        Checks.due("KEY", x.note(0, 6), 0);
        Checks.due("SPEED", x.note(0, 7), 100);
        x.body(0, 1);
        x.after(0, 1);
        Checks.due("the same text again", Checks.text(x, "note f4 1/1;"), 1);
        Checks.due("what was changed is gone", x.note(0, 2), 0);
        Checks.due("nb, too", x.note(0, 4), 0);
    }

    /** A fresh object and one that had other texts, with and without a FAULT, ahead of the same one. */
    private static void promise3NothingOfFormerTexts() {
        Sentences.of(3, "are the TEXT (TERMS stay): how many NOTES.");
        String former = "key 3;speed 300;meter 2/1;note d+4 1/8 gr e+4 f4 tr up+ down- nb;tie 1/8;note c4 1/32 sl mo an;note e4 1/4 ap f4;"
            + "tie 1/4;tie 1/4;note c4 31/32 gr d4;meter 1/16;note d4 1/16;";
        String[] texts = {"", "rest 1/4;", "note c4 1/8;", "note c4 1/8;rest 1/8;", "note c4 1/8;note e4 1/8 gr f4;rest 1/4;rest 1/4;"};
        for (String text : texts) {
            Snapshot fresh = new Snapshot(() -> Checks.song(text));
            for (int many = 1; many <= 3; many++) {
                int times = many;
                fresh.dueAlike("'" + text + "' behind " + many + " texts", () -> {
                    OrnamentsOut one = new OrnamentsOut();
                    for (int i = 0; i < times; i++) {
                        Checks.due("the former text", Checks.text(one, former), 5);
                        one.fastest();
                        one.count(1);
                        Checks.text(one, "note c4 1/4 tr up+ up-;");
                    }
                    Checks.feed(one, text);
                    one.text(text.length());
                    return one;
                });
            }
        }
    }

    private static void promise3NBelow0OrAboveWhatThereIs() {
        Sentences.of(3, "-3: n is below 0, above what there is (THE TAPE stays);");
        x = new OrnamentsOut();
        for (int n : new int[] {LEAST, -1, 1, 20, 800, GREATEST}) {
            Checks.due("text(" + n + ") of nothing", x.text(n), -3);
        }
        Checks.feed(x, "rest 1/4;");
        for (int n : new int[] {LEAST, -20, -1, 21, 800, GREATEST}) {
            Checks.due("text(" + n + ") of 20", x.text(n), -3);
            Checks.due("THE TAPE stays", x.count(3), 20);
        }
        Checks.due("and its bytes", x.text(9), 1);
        for (int i = 0; i < 40; i++) {
            blanks();
        }
        Checks.due("text(801) of 800", x.text(801), -3);
        Checks.due("THE TAPE stays", x.count(3), 800);
        Checks.due("the NOTE stays", x.count(0), 1);
        Checks.due("text(800) of 800", x.text(800), 0);
    }

    private static void promise3AFault() {
        Sentences.of(3, "a FAULT.");
        x = Checks.song("note c4 1/4;");
        Checks.due("FAULT 1", Checks.text(x, "foo;"), -31);
        Checks.due("FAULT 2", Checks.text(x, "key 8;"), -32);
        Checks.due("FAULT 3", Checks.text(x, "tie 1/4;"), -33);
        Checks.due("THE TAPE is empty", x.count(3), 0);
        Checks.due("the NOTE stays", x.note(0, 0), 60);
    }

    private static void promise4OfTheLatestText() {
        Sentences.of(4, "Of the latest text() that took bytes, what 0: its FAULT (0), 1: its place (NONE).");
        x = new OrnamentsOut();
        Checks.due("FAULT at first", x.fault(0), 0);
        Checks.due("place at first", x.fault(1), -1);
        String[] texts = {";", "  ;", "key 8;", "tie 1/4;", "rest 1/4;tie 1/4;", "rest", " ".repeat(799) + "k", " ".repeat(796) + "rest"};
        int[][] due = {{1, 0}, {1, 2}, {2, 4}, {3, 0}, {3, 9}, {1, 4}, {1, 799}, {1, 800}};
        for (int i = 0; i < texts.length; i++) {
            Checks.text(x, texts[i]);
            Checks.due("FAULT " + i, x.fault(0), due[i][0]);
            Checks.due("place " + i, x.fault(1), due[i][1]);
            Checks.due("text(-1)", x.text(-1), -3);
            Checks.due("text(1)", x.text(1), -3);
            Checks.due("a refused one took none: FAULT " + i, x.fault(0), due[i][0]);
            Checks.due("place " + i, x.fault(1), due[i][1]);
        }
        Checks.text(x, "rest 1/4;");
        Checks.due("FAULT of a good one", x.fault(0), 0);
        Checks.due("place of a good one", x.fault(1), -1);
    }

    private static void promise4NoneForOthers() {
        Sentences.of(4, "NONE for others.");
        x = new OrnamentsOut();
        for (int what : new int[] {LEAST, -1, 2, 3, GREATEST}) {
            Checks.due("fault(" + what + ") at first", x.fault(what), -1);
        }
        Checks.text(x, "key 8;");
        for (int what : new int[] {LEAST, -1, 2, 3, GREATEST}) {
            Checks.due("fault(" + what + ")", x.fault(what), -1);
        }
    }

    private static void promise5WhatItWas() {
        Sentences.of(5, "A TERM: what it was.");
        x = new OrnamentsOut();
        int[] first = {70, 32, 1, 1, 0, 100, 0};
        int[] least = {20, 8, 0, 0, 0, 25, 0};
        int[] most = {250, 64, 1, 1, 1, 400, 1};
        for (int what = 0; what < 7; what++) {
            Checks.due("to the least", x.terms(what, least[what]), first[what]);
            Checks.due("to the greatest", x.terms(what, most[what]), least[what]);
            Checks.due("to the same", x.terms(what, most[what]), most[what]);
            Checks.due("count(" + (10 + what) + ")", x.count(10 + what), most[what]);
        }
        Checks.due("TONE 8", x.terms(1, 8), 64);
        Checks.due("TONE 16", x.terms(1, 16), 8);
        Checks.due("TONE 32", x.terms(1, 32), 16);
        Checks.due("TONE 64", x.terms(1, 64), 32);
        // Each TERM makes other TONES at once.
        int[] others = {76, 16, 0, 0, 1, 50, 1};
        String text = "note d+4 1/8;note c4 1/4 gr e4 tr;note d+4 1/4;note c4 5/16 dc;";
        for (int what = 0; what < 7; what++) {
            x = Checks.song(text);
            x.terms(1, what == 5 ? 64 : 32);
            String was = Checks.tones(x);
            x.terms(what, others[what]);
            Checks.holds("TERM " + what + " makes other TONES", !Checks.tones(x).equals(was));
            Checks.due("TONE 0 still begins at 0", x.when(0, 0, 0), 0);
        }
    }

    private static void promise5Codes() {
        Sentences.of(5, "-2; -3.");
        x = new OrnamentsOut();
        for (int what : new int[] {LEAST, -1, 7, 10, GREATEST}) {
            Checks.due("terms(" + what + ", 1)", x.terms(what, 1), -2);
            Checks.due("terms(" + what + ", least): -2 first", x.terms(what, LEAST), -2);
        }
        int[] least = {20, 8, 0, 0, 0, 25, 0};
        int[] most = {250, 64, 1, 1, 1, 400, 1};
        int[] first = {70, 32, 1, 1, 0, 100, 0};
        for (int what = 0; what < 7; what++) {
            for (int v : new int[] {LEAST, least[what] - 1, most[what] + 1, GREATEST}) {
                Checks.due("terms(" + what + ", " + v + ")", x.terms(what, v), -3);
                Checks.due("it stays", x.count(10 + what), first[what]);
            }
        }
    }

    private static void promise6WhichItWas() {
        Sentences.of(6, "BODY of a NOTE: 0 none, 1 tr, 2 mo, 3 pr, 4 tu, 5 dt, 6 it, 7 lm, 8 dc (up, down are told no more; nb goes but by 1, 8):"
            + " which it was.");
        for (int was = 0; was <= 8; was++) {
            for (int kind = 0; kind <= 8; kind++) {
                boolean takesNb = was == 1 || was == 8;
                x = Checks.song("note c4 1/4 " + BODIES[was] + (was > 0 ? " up+ down-" : "") + (takesNb ? " nb;" : " an;"));
                Checks.due("body(0, " + kind + ")", x.body(0, kind), was);
                Checks.due("BODY is", x.note(0, 2), kind);
                int behind = !takesNb ? 2 : kind == 1 || kind == 8 ? 1 : 0;
                Checks.due("nb of " + was + " by " + kind + ", an stays", x.note(0, 4), behind);
                Checks.due("UPPER without up", x.note(0, 8), 62);
                Checks.due("LOWER without down", x.note(0, 9), 59);
                Checks.due("up is told no more", x.sign(0, 1, 2), kind == 0 ? -5 : 2);
                Checks.due("down is told no more", x.sign(0, 0, 2), kind == 0 ? -5 : 2);
                Checks.due("TONES are those of such a text", x.note(0, 15), Checks.song("note c4 1/4 " + BODIES[kind]
                    + (behind == 2 ? " an;" : behind == 1 ? " nb;" : ";")).note(0, 15));
            }
        }
        x = Checks.song("note c4 1/32;".repeat(48));
        Checks.due("of NOTE 47", x.body(47, 8), 0);
        Checks.due("it is", x.note(47, 2), 8);
        Checks.due("NOTE 46 stays", x.note(46, 2), 0);
    }

    private static void promise6Codes() {
        Sentences.of(6, "-2: the NOTE, it is a rest; -3.");
        x = Checks.song("note c4 1/4 tr up+ nb;rest 1/4;");
        for (int note : new int[] {LEAST, -1, 1, 2, 48, GREATEST}) {
            Checks.due("body(" + note + ", 0)", x.body(note, 0), -2);
            Checks.due("body(" + note + ", 9): -2 first", x.body(note, 9), -2);
        }
        for (int kind : new int[] {LEAST, -1, 9, GREATEST}) {
            Checks.due("body(0, " + kind + ")", x.body(0, kind), -3);
        }
        Checks.due("BODY stays", x.note(0, 2), 1);
        Checks.due("up stays", x.sign(0, 1, 1), 1);
        Checks.due("nb stays", x.note(0, 4), 1);
        Checks.due("without NOTES", new OrnamentsOut().body(0, 0), -2);
    }

    private static void promise7WhatItWas() {
        Sentences.of(7, "SIGN of up (1), down (0) of a NOTE's BODY: -1 flat, 0 natural, 1 sharp, 2 none told: what it was (as these).");
        for (int up = 0; up <= 1; up++) {
            for (int was = -1; was <= 2; was++) {
                for (int sign = -1; sign <= 2; sign++) {
                    x = Checks.song("key 2;note e4 1/4 tu;");
                    Checks.due("none told", x.sign(0, up, was), 2);
                    Checks.due("sign " + was + " to " + sign, x.sign(0, up, sign), was);
                    int upper = up == 1 && sign < 2 ? 65 + sign : 66;
                    int lower = up == 0 && sign < 2 ? 62 + sign : 62;
                    Checks.due("UPPER", x.note(0, 8), upper == 64 ? 65 : upper);
                    Checks.due("LOWER", x.note(0, 9), lower);
                    Checks.due("the other one", x.sign(0, 1 - up, 2), 2);
                    Checks.due("it stands", x.sign(0, up, 2), sign);
                }
            }
        }
        x = Checks.song("note c4 1/8 tu;");
        Checks.dueTones(x, "d4 1/32, c4 1/32, b3 1/32, c4 1/32");
        x.sign(0, 1, 1);
        Checks.dueTones(x, "d+4 1/32, c4 1/32, b3 1/32, c4 1/32");
        x.sign(0, 0, -1);
        Checks.dueTones(x, "d+4 1/32, c4 1/32, b-3 1/32, c4 1/32");
        x = Checks.song("note c4 1/4 tr up- down=;note c4 1/4 mo down+;");
        Checks.due("told by the text", x.sign(0, 1, 2), -1);
        Checks.due("told by the text", x.sign(0, 0, 2), 0);
        Checks.due("told by the text", x.sign(1, 0, 2), 1);
        Checks.due("not told by the text", x.sign(1, 1, 2), 2);
    }

    private static void promise7Codes() {
        Sentences.of(7, "-2: the NOTE, it is a rest; -3; -5: it has no BODY.");
        x = Checks.song("note c4 1/4 tr up+ down-;rest 1/4;note d4 1/4 sl;");
        for (int note : new int[] {LEAST, -1, 1, 3, 48, GREATEST}) {
            Checks.due("sign(" + note + ", 0, 0)", x.sign(note, 0, 0), -2);
            Checks.due("sign(" + note + ", 2, 3): -2 first", x.sign(note, 2, 3), -2);
        }
        for (int note : new int[] {0, 2}) {
            for (int up : new int[] {LEAST, -1, 2, GREATEST}) {
                Checks.due("sign(" + note + ", " + up + ", 0)", x.sign(note, up, 0), -3);
            }
            for (int sign : new int[] {LEAST, -2, 3, GREATEST}) {
                Checks.due("sign(" + note + ", 0, " + sign + ")", x.sign(note, 0, sign), -3);
                Checks.due("sign(" + note + ", 1, " + sign + ")", x.sign(note, 1, sign), -3);
            }
        }
        for (int sign = -1; sign <= 2; sign++) {
            Checks.due("no BODY, down", x.sign(2, 0, sign), -5);
            Checks.due("no BODY, up", x.sign(2, 1, sign), -5);
        }
        x.body(2, 2);
        Checks.due("it has one now, and nothing was told", x.sign(2, 1, 0), 2);
        x.body(2, 0);
        Checks.due("it has none again", x.sign(2, 1, 0), -5);
        Checks.due("up stays", x.sign(0, 1, 1), 1);
        Checks.due("down stays", x.sign(0, 0, -1), -1);
    }

    private static void promise8HowManyTones() {
        Sentences.of(8, "PREFIX of a NOTE is none: how many TONES it would be, as told (0 none).");
        String[] prefixes = {"", "gr d4", "gr d4 e4", "gr d4 e4 f4", "gr d4 e4 f4 g4", "ap d4", "sl"};
        int[] due = {0, 1, 2, 3, 4, 1, 2};
        for (int i = 0; i < prefixes.length; i++) {
            for (String length : new String[] {"1/1", "3/32", "1/16", "1/32"}) {
                x = Checks.song("note c4 " + length + " " + prefixes[i] + ";");
                Checks.due("PREFIX '" + prefixes[i] + "' of " + length, x.bare(0), due[i]);
                Checks.due("PREFIX is none", x.note(0, 3), 0);
                Checks.due("its VERDICT", x.note(0, 11), 0);
                Checks.due("one TONE", x.count(1), 1);
                Checks.due("BORROWED none", x.borrowed(0, 0, 0), 0);
                Checks.due("again", x.bare(0), 0);
            }
        }
        x = Checks.song("note c4 1/4;note d4 1/4 gr e4 f4 mo an;note e4 1/4;");
        Checks.due("bare(1)", x.bare(1), 2);
        Checks.dueTones(x, "c4 1/4, d4 1/32, c4 1/32, d4 5/32, e4 1/32, e4 1/4");
        Checks.due("BODY stays", x.note(1, 2), 2);
        Checks.due("an stays", x.note(1, 4), 2);
    }

    private static void promise8Codes() {
        Sentences.of(8, "-2: the NOTE, it is a rest.");
        x = Checks.song("note c4 1/4 gr d4 e4;rest 1/4;");
        for (int note : new int[] {LEAST, -1, 1, 2, 48, GREATEST}) {
            Checks.due("bare(" + note + ")", x.bare(note), -2);
        }
        Checks.due("PREFIX stays", x.note(0, 3), 2);
        Checks.due("without NOTES", new OrnamentsOut().bare(0), -2);
    }

    private static void promise9WhatItWas() {
        Sentences.of(9, "Behind a NOTE: 0 nothing, 1 nb, 2 an: what it was.");
        for (int body : new int[] {1, 8}) {
            for (int was = 0; was <= 2; was++) {
                for (int is = 0; is <= 2; is++) {
                    x = Checks.song("note c4 3/4 " + BODIES[body] + (was == 0 ? "" : was == 1 ? " nb" : " an") + ";note e4 1/4;");
                    Checks.due("VERDICT ahead of it", x.note(0, 13), was == 0 ? 0 : was == 1 ? 1 : 3);
                    Checks.due("after(0, " + is + ")", x.after(0, is), was);
                    Checks.due("it stands", x.note(0, 4), is);
                    Checks.due("VERDICT", x.note(0, 13), is == 0 ? 0 : is == 1 ? 1 : 3);
                }
            }
        }
        for (int body : new int[] {0, 2, 3, 4, 5, 6, 7}) {
            x = Checks.song("note c4 1/2 " + BODIES[body] + ";note e4 1/4;");
            Checks.due("an", x.after(0, 2), 0);
            Checks.due("an again", x.after(0, 2), 2);
            Checks.due("VERDICT", x.note(0, 13), 1);
            Checks.due("nothing", x.after(0, 0), 2);
            Checks.due("nothing again", x.after(0, 0), 0);
        }
    }

    private static void promise9Codes() {
        Sentences.of(9, "-2: the NOTE, it is a rest; -3; -5: nb, and its BODY isn't tr, dc.");
        x = Checks.song("note c4 1/4 tr nb;rest 1/4;note d4 1/4 an;");
        for (int note : new int[] {LEAST, -1, 1, 3, 48, GREATEST}) {
            Checks.due("after(" + note + ", 0)", x.after(note, 0), -2);
            Checks.due("after(" + note + ", 1): -2 first", x.after(note, 1), -2);
            Checks.due("after(" + note + ", 3): -2 first", x.after(note, 3), -2);
        }
        for (int is : new int[] {LEAST, -1, 3, GREATEST}) {
            Checks.due("after(0, " + is + ")", x.after(0, is), -3);
            Checks.due("after(2, " + is + ")", x.after(2, is), -3);
        }
        Checks.due("nb stays", x.note(0, 4), 1);
        for (int body : new int[] {0, 2, 3, 4, 5, 6, 7}) {
            x.body(2, body);
            Checks.due("nb of BODY " + body, x.after(2, 1), -5);
            Checks.due("an stays", x.note(2, 4), 2);
        }
        x.body(2, 1);
        Checks.due("nb of tr", x.after(2, 1), 2);
        x.body(2, 8);
        Checks.due("nb of dc", x.after(2, 1), 1);
    }

    public static void main(String[] args) {
        promise1NoNotes();
        promise2TwentyBytesTheHighestFirst();
        promise2MoreThan800();
        promise3TheFirstNBytes();
        promise3NothingOfFormerTexts();
        promise3NBelow0OrAboveWhatThereIs();
        promise3AFault();
        promise4OfTheLatestText();
        promise4NoneForOthers();
        promise5WhatItWas();
        promise5Codes();
        promise6WhichItWas();
        promise6Codes();
        promise7WhatItWas();
        promise7Codes();
        promise8HowManyTones();
        promise8Codes();
        promise9WhatItWas();
        promise9Codes();
        Sentences.end("BoundsPromises1To9Test");
    }
}
