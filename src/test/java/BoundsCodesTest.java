import java.util.function.Supplier;
import java.util.function.ToLongFunction;

/** "==== 3." of the terms and the bound of calls, sentence by sentence: BARS, every code of every call, fractions. */
public final class BoundsCodesTest {
    private static final int LEAST = Integer.MIN_VALUE;
    private static final int GREATEST = Integer.MAX_VALUE;
    /** No NOTE, TONE or BAR of rich() has one of these for its index. */
    private static final int[] NO_INDEX = {LEAST, LEAST + 1, -2, -1, 48, 800, GREATEST - 1, GREATEST};

    private static Snapshot snapshot;

    /** Of everything something: NOTE 1 is a rest, NOTE 3 has no BODY, NOTE 2 has one that nb can't be with; a FAULT was told. */
    private static OrnamentsOut rich() {
        OrnamentsOut x = new OrnamentsOut();
        Checks.text(x, "key 2;speed 90;note c4 1/4 gr d4 e-4 tr up+ down- nb;rest 1/4;note f4 1/4 sl mo an;tie 1/4;key -3;"
            + "note g4 1/8;note a4 1/2 ap b4 dt up-;");
        x.terms(0, 60);
        x.terms(4, 1);
        x.terms(6, 1);
        Checks.text(x, "rest 1/4");
        Checks.feed(x, "note d4 1/2;rest 1/8;");
        return x;
    }

    private static OrnamentsOut full() {
        OrnamentsOut x = Checks.song("note c4 1/4;");
        Checks.feed(x, "note e4 1/2;" + " ".repeat(788));
        return x;
    }

    private static void bars() {
        Sentences.of(Sentences.CODES, "BARS: from 0 on, of the METER as it was as each began; the last one may be short.");
        Checks.due("none at first", new OrnamentsOut().count(2), 0);
        Checks.due("none without NOTES", Checks.song("key 1;meter 3/4;speed 60;").count(2), 0);
        OrnamentsOut x = Checks.song("meter 3/4;note c4 3/4;meter 1/16;rest 1/16;meter 2/1;note c4 1/32;");
        Checks.due("three", x.count(2), 3);
        long[][] due = {{3, 4}, {1, 16}, {1, 32}};
        for (int k = 0; k < 3; k++) {
            Checks.dueFraction("BAR " + k, x.bar(k, 2), x.bar(k, 3), due[k][0], due[k][1]);
            Checks.due("BAR of NOTE " + k, x.note(k, 1), k);
        }
        x = Checks.song("rest 1/1;");
        Checks.due("a full one is one, the next hasn't begun", x.count(2), 1);
        x = Checks.song("rest 1/1;meter 3/4;");
        Checks.due("METER begins none", x.count(2), 1);
        x = Checks.song("rest 1/1;rest 1/32;");
        Checks.due("the next has begun", x.count(2), 2);
        Checks.dueFraction("it is short", x.bar(1, 2), x.bar(1, 3), 1, 32);
    }

    private static void refused(String told, ToLongFunction<OrnamentsOut> call, long code) {
        snapshot.dueUnchanged(told, call, code);
    }

    private static void noneSuchNote() {
        for (int note : NO_INDEX) {
            String told = " of NOTE " + note;
            refused("body" + told, x -> x.body(note, 1), -2);
            refused("sign" + told, x -> x.sign(note, 1, 1), -2);
            refused("bare" + told, x -> x.bare(note), -2);
            refused("after" + told, x -> x.after(note, 0), -2);
            refused("note" + told, x -> x.note(note, 0), -2);
            refused("begin" + told, x -> x.begin(note, 0), -2);
            refused("length" + told, x -> x.length(note, 0), -2);
            refused("borrowed" + told, x -> x.borrowed(note, 0, 0), -2);
            refused("tone" + told, x -> x.tone(note, 0), -2);
            refused("milliseconds" + told, x -> x.milliseconds(note), -2);
            refused("inKey" + told, x -> x.inKey(note, 1, 0), -2);
            refused("bears" + told, x -> x.bears(note), -2);
            refused("instead" + told, x -> x.instead(note, 1), -2);
            refused("richest" + told, x -> x.richest(note), -2);
        }
    }

    private static void aRest() {
        refused("body of a rest", x -> x.body(1, 1), -2);
        refused("sign of a rest", x -> x.sign(1, 1, 1), -2);
        refused("bare of a rest", x -> x.bare(1), -2);
        refused("after of a rest", x -> x.after(1, 0), -2);
        refused("inKey of a rest", x -> x.inKey(1, 1, 0), -2);
        refused("instead of a rest", x -> x.instead(1, 1), -2);
        refused("richest of a rest", x -> x.richest(1), -2);
    }

    private static void noneSuch() {
        for (int k : NO_INDEX) {
            refused("sounds of TONE " + k, x -> x.sounds(k, 0), -100);
            refused("when of TONE " + k, x -> x.when(k, 0, 0), -2);
            refused("called of TONE " + k, x -> x.called(k, 0), -2);
            refused("bar of BAR " + k, x -> x.bar(k, 0), -2);
        }
        for (int what : new int[] {LEAST, -1, 2, 3, GREATEST}) {
            refused("begin, what " + what, x -> x.begin(0, what), -2);
            refused("length, what " + what, x -> x.length(0, what), -2);
            refused("borrowed, what " + what, x -> x.borrowed(0, 0, what), -2);
            refused("borrowed, what " + what + " of the last", x -> x.borrowed(4, 2, what), -2);
            refused("tone, what " + what, x -> x.tone(0, what), -2);
            refused("when, what " + what, x -> x.when(0, 1, what), -2);
            refused("when, which " + what, x -> x.when(0, what, 0), -2);
        }
        for (int what : new int[] {LEAST, -1, 3, GREATEST}) {
            refused("borrowed, from " + what, x -> x.borrowed(0, what, 0), -2);
            refused("would, what " + what, x -> x.would(100, what), -2);
        }
        for (int what : new int[] {LEAST, -1, 6, 7, GREATEST}) {
            refused("bar, what " + what, x -> x.bar(0, what), -2);
        }
        for (int what : new int[] {LEAST, -1, 7, GREATEST}) {
            refused("terms, what " + what, x -> x.terms(what, 1), -2);
            refused("sounds, what " + what, x -> x.sounds(0, what), -100);
        }
        for (int what : new int[] {LEAST, -1, 16, GREATEST}) {
            refused("note, what " + what, x -> x.note(0, what), -100);
        }
    }

    private static void cantBe() {
        for (int n : new int[] {LEAST, -1, 41, GREATEST}) {
            refused("text(" + n + ")", x -> x.text(n), -3);
        }
        int[] least = {20, 8, 0, 0, 0, 25, 0};
        int[] most = {250, 64, 1, 1, 1, 400, 1};
        for (int i = 0; i < 7; i++) {
            int what = i;
            for (int v : new int[] {LEAST, least[i] - 1, most[i] + 1, GREATEST}) {
                refused("terms(" + what + ", " + v + ")", x -> x.terms(what, v), -3);
            }
        }
        for (int v : new int[] {0, 1, 2, 4, 7, 9, 12, 15, 17, 24, 31, 33, 48, 63}) {
            refused("TONE " + v, x -> x.terms(1, v), -3);
        }
        for (int kind : new int[] {LEAST, -1, 9, GREATEST}) {
            refused("body, kind " + kind, x -> x.body(0, kind), -3);
            refused("instead, kind " + kind, x -> x.instead(0, kind), -3);
        }
        for (int sign : new int[] {LEAST, -2, 3, GREATEST}) {
            refused("sign, sign " + sign, x -> x.sign(0, 1, sign), -3);
            refused("sign, down, sign " + sign, x -> x.sign(0, 0, sign), -3);
        }
        for (int up : new int[] {LEAST, -1, 2, GREATEST}) {
            refused("sign, up " + up, x -> x.sign(0, up, 0), -3);
            refused("inKey, up " + up, x -> x.inKey(0, up, 0), -3);
        }
        for (int is : new int[] {LEAST, -1, 3, GREATEST}) {
            refused("after, is " + is, x -> x.after(0, is), -3);
        }
        for (int key : new int[] {LEAST, -8, 8, GREATEST}) {
            refused("inKey, key " + key, x -> x.inKey(0, 1, key), -3);
            refused("inKey, down, key " + key, x -> x.inKey(0, 0, key), -3);
        }
        for (int percent : new int[] {LEAST, -1, 0, 24, 401, GREATEST}) {
            refused("would, percent " + percent, x -> x.would(percent, 0), -3);
        }
        for (int one : new int[] {LEAST, -1}) {
            refused("called, i " + one, x -> x.called(0, one), -3);
            refused("at, upper " + one, x -> x.at(one, 1), -3);
        }
        for (int lower : new int[] {LEAST, -1, 0, 10001, GREATEST}) {
            refused("at, lower " + lower, x -> x.at(0, lower), -3);
        }
    }

    private static void notNow() {
        refused("sign of no BODY", x -> x.sign(3, 1, 1), -5);
        refused("sign of no BODY, down", x -> x.sign(3, 0, 2), -5);
        refused("nb of mo", x -> x.after(2, 1), -5);
        refused("nb of no BODY", x -> x.after(3, 1), -5);
        refused("nb of dt", x -> x.after(4, 1), -5);
    }

    private static void refusedCalls() {
        Sentences.of(Sentences.CODES, "Refused calls answer by a code and change nothing: -2 there is none such; -3 a number can't be;"
            + " -4 too many; -5 it can't be now;");
        snapshot = new Snapshot(BoundsCodesTest::rich);
        noneSuchNote();
        aRest();
        noneSuch();
        cantBe();
        notNow();
        snapshot = new Snapshot(BoundsCodesTest::full);
        refused("feed beyond 800", x -> x.feed(1, 2, 3, 4, 5), -4);
        refused("feed of the least and the greatest", x -> x.feed(LEAST, GREATEST, -1, 0, 1), -4);
        refused("text(801)", x -> x.text(801), -3);
        snapshot = new Snapshot(OrnamentsOut::new);
        noneSuchNote();
        aRest();
        refused("text(1) of nothing", x -> x.text(1), -3);
        refused("NOTE 0 of none", x -> x.note(0, 0), -2);
        refused("TONE 0 of none", x -> x.sounds(0, 0), -100);
        refused("BAR 0 of none", x -> x.bar(0, 0), -2);
    }

    private static void questionsChangeNothing() {
        snapshot = new Snapshot(BoundsCodesTest::rich);
        refused("fastest", OrnamentsOut::fastest, rich().fastest());
        refused("bears", x -> x.bears(4), rich().bears(4));
        refused("would", x -> x.would(400, 0), rich().would(400, 0));
        refused("instead", x -> x.instead(0, 5), rich().instead(0, 5));
        refused("richest", x -> x.richest(0), rich().richest(0));
        refused("inKey", x -> x.inKey(0, 1, -7), rich().inKey(0, 1, -7));
        refused("quick", OrnamentsOut::quick, rich().quick());
        refused("greediest", OrnamentsOut::greediest, rich().greediest());
        refused("at NONE", x -> x.at(GREATEST, 1), -1);
        refused("called NONE", x -> x.called(0, GREATEST), -1);
        refused("fault NONE", x -> x.fault(LEAST), -1);
        refused("count NONE", x -> x.count(GREATEST), -1);
    }

    private static Supplier<OrnamentsOut> behindText(String text) {
        return () -> {
            OrnamentsOut x = rich();
            x.text(40);
            Checks.text(x, "key 2;note c4 1/4 gr d4 e4 tr up+ nb;rest 1/4;");
            x.terms(5, 150);
            if (!text.isEmpty()) {
                Checks.text(x, text);
            }
            return x;
        };
    }

    private static void aFault() {
        Sentences.of(Sentences.CODES, "-30 less the FAULT: a text (THE TAPE is empty then; nothing else changes).");
        String[] texts = {"foo;", "key 8;", "tie 1/4;", "note d4 1/2;key 8;", "rest 1/1;rest 1/1;note e4 1/8 dc", "key 7;speed 20;meter 1/16;foo;"};
        int[] codes = {-31, -32, -33, -32, -31, -31};
        for (int i = 0; i < texts.length; i++) {
            String text = texts[i];
            OrnamentsOut x = behindText("").get();
            Checks.due("text of '" + text + "'", Checks.text(x, text), codes[i]);
            Checks.due("THE TAPE is empty", x.count(3), 0);
            Checks.due("no bytes are left of it", x.text(1), -3);
            Checks.due("the next bytes are the first ones", Checks.text(x, "rest 1/2;"), 1);
            dueSameNotes(behindText("").get(), behindText(text).get());
        }
    }

    /** All but the FAULT. */
    private static void dueSameNotes(OrnamentsOut was, OrnamentsOut is) {
        for (int what = 0; what <= 16; what++) {
            Checks.due("count(" + what + ") stays", is.count(what), was.count(what));
        }
        for (int note = 0; note < 3; note++) {
            for (int what = 0; what <= 15; what++) {
                Checks.due("note(" + note + ", " + what + ") stays", is.note(note, what), was.note(note, what));
            }
        }
        for (int k = 0; k < was.count(1); k++) {
            for (int what = 0; what <= 6; what++) {
                Checks.due("sounds(" + k + ", " + what + ") stays", is.sounds(k, what), was.sounds(k, what));
            }
            Checks.due("when(" + k + ") stays", is.when(k, 1, 0), was.when(k, 1, 0));
        }
        Checks.due("up stays", is.sign(0, 1, 2), was.sign(0, 1, 2));
        Checks.due("PREFIX stays", is.bare(0), was.bare(0));
    }

    private static void theCallTellsFirst() {
        Sentences.of(Sentences.CODES, "(Of several that which the call tells first; all these ahead of NONE.)");
        OrnamentsOut x = rich();
        Checks.due("terms: -2, then -3", x.terms(7, LEAST), -2);
        Checks.due("body: -2, then -3", x.body(5, 9), -2);
        Checks.due("body of a rest: -2, then -3", x.body(1, 9), -2);
        Checks.due("sign: -2, then -3", x.sign(5, 2, 3), -2);
        Checks.due("sign of a rest: -2, then -3", x.sign(1, 2, 3), -2);
        Checks.due("sign: -3, then -5", x.sign(3, 2, 0), -3);
        Checks.due("sign: -3, then -5", x.sign(3, 0, 3), -3);
        Checks.due("sign of a rest: -2, then -5", x.sign(1, 0, 0), -2);
        Checks.due("after: -2, then -3", x.after(5, 3), -2);
        Checks.due("after of a rest: -2, then -3", x.after(1, 3), -2);
        Checks.due("after of a rest: -2, then -5", x.after(1, 1), -2);
        Checks.due("note: -2, then -100", x.note(5, 16), -2);
        Checks.due("note: -2, then -100", x.note(-1, -1), -2);
        Checks.due("note of a rest: -100 ahead of NONE", x.note(1, 16), -100);
        Checks.due("called: -2, then -3", x.called(-1, -1), -2);
        Checks.due("called: -2 ahead of NONE", x.called(-1, GREATEST), -2);
        Checks.due("inKey: -2, then -3", x.inKey(5, 2, 8), -2);
        Checks.due("inKey of a rest: -2, then -3", x.inKey(1, 2, 8), -2);
        Checks.due("would: -2, then -3", x.would(24, 3), -2);
        Checks.due("instead: -2, then -3", x.instead(5, 9), -2);
        Checks.due("instead of a rest: -2, then -3", x.instead(1, 9), -2);
        Checks.due("at: -3 ahead of NONE", x.at(GREATEST, 0), -3);
        Checks.due("at: -3 ahead of NONE", new OrnamentsOut().at(-1, 1), -3);
        x.after(3, 2);
        x.after(4, 2);
        Checks.due("bears: -2 ahead of NONE", x.bears(5), -2);
        Checks.due("bears: NONE", x.bears(4), -1);
        x = full();
        Checks.due("text: -3 ahead of a FAULT", x.text(801), -3);
    }

    private static void fractions() {
        Sentences.of(Sentences.CODES, "Fractions are in lowest terms, what 0 upper, 1 lower number (0 by 1).");
        OrnamentsOut x = Checks.song("meter 16/1;note c4 8/32;note c4 32/32;note c4 24/16 gr d4 e4;note c4 6/4 mo;rest 30/16;rest 32/4;");
        long[][] due = {{0, 1, 1, 4}, {1, 4, 1, 1}, {5, 4, 3, 2}, {11, 4, 3, 2}, {17, 4, 15, 8}, {49, 8, 8, 1}};
        for (int i = 0; i < due.length; i++) {
            Checks.dueFraction("begin of " + i, x.begin(i, 0), x.begin(i, 1), due[i][0], due[i][1]);
            Checks.dueFraction("length of " + i, x.length(i, 0), x.length(i, 1), due[i][2], due[i][3]);
        }
        Checks.dueFraction("all", x.count(7), x.count(8), 113, 8);
        Checks.dueFraction("BORROWED", x.borrowed(2, 1, 0), x.borrowed(2, 1, 1), 1, 16);
        Checks.dueFraction("BORROWED none", x.borrowed(1, 1, 0), x.borrowed(1, 1, 1), 0, 1);
        Checks.dueFraction("BAR 0", x.bar(0, 2), x.bar(0, 3), 113, 8);
        Checks.dueFraction("BAR 0 sounds", x.bar(0, 4), x.bar(0, 5), 17, 4);
        Checks.dueFraction("TONE 0 begins", x.when(0, 0, 0), x.when(0, 0, 1), 0, 1);
        Checks.dueFraction("TONE 1 is shorter", x.when(1, 1, 0), x.when(1, 1, 1), 15, 16);
        x = new OrnamentsOut();
        Checks.dueFraction("all of nothing", x.count(7), x.count(8), 0, 1);
    }

    private static void calls() {
        Sentences.of(Sentences.WHAT_IT_IS, "An object is used for at most 512 calls after it has been made; what later calls answer is free.");
        OrnamentsOut x = new OrnamentsOut();
        for (int i = 0; i < 40; i++) {
            x.feed(0x72657374, 0x20312f33, 0x323b2020, 0x20202020, 0x20202020);
        }
        Checks.due("text", x.text(800), 40);
        for (int i = 41; i < 511; i++) {
            x.terms(i % 2 == 0 ? 5 : 0, 25 + i % 200);
        }
        Checks.due("the 512th call", x.count(0), 40);
        x = new OrnamentsOut();
        for (int i = 0; i < 256; i++) {
            Checks.due("feed", x.feed(0x72657374, 0x20312f33, 0x323b2020, 0x20202020, 0x20202020), 20);
            Checks.due("text, up to the 512th call", x.text(20), 1);
        }
    }

    public static void main(String[] args) {
        bars();
        refusedCalls();
        questionsChangeNothing();
        aFault();
        theCallTellsFirst();
        fractions();
        calls();
        Sentences.end("BoundsCodesTest");
    }
}
