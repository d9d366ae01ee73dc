import java.util.Arrays;

/** A line of notes with ornaments, told as a text and written out as tones; see README.md. */
public final class OrnamentsOut {
    public static final int NONE = -1;

    private static final int NO_SUCH = -2;
    private static final int CANT_BE = -3;
    private static final int TOO_MANY = -4;
    private static final int NOT_NOW = -5;
    private static final int FAULTY = -30;
    private static final int NO_SUCH_SOUND = -100;

    private static final int MOST_BYTES = 800;
    private static final int MOST_NOTES = 48;
    /** A NOTE or tie is a LINE of 7 bytes at least, so 800 bytes can't begin more BARS. */
    private static final int MOST_BARS = 120;
    /** 4 GRACES, 2 that join, 64 turns, 2 of the AFTERBEAT, 1 of an. */
    private static final int MOST_TONES_OF_NOTE = 73;

    /** Times are counted in these parts of a whole: an eighth of R is the finest the rules can ask for. */
    private static final int WHOLE = 512;
    /** MILLISECONDS of a whole at SPEED 1 and PERCENT 1. */
    private static final long WHOLE_MILLISECONDS = 24000000L;

    private static final int LIMIT = 0;
    private static final int TONE = 1;
    private static final int AHEAD = 2;
    private static final int HOLD = 3;
    private static final int AFTER = 4;
    private static final int PERCENT = 5;
    private static final int STYLE = 6;
    private static final int[] TERMS_LEAST = {20, 8, 0, 0, 0, 25, 0};
    private static final int[] TERMS_MOST = {250, 64, 1, 1, 1, 400, 1};

    private static final int TRILL = 1;
    private static final int MORDENT = 2;
    private static final int PRALL = 3;
    private static final int TURN = 4;
    private static final int DELAYED_TURN = 5;
    private static final int INVERTED_TURN = 6;
    private static final int LONG_MORDENT = 7;
    private static final int CADENCE = 8;
    private static final String BODY_WORDS = "trmoprtudtitlmdc";

    private static final int APPOGGIATURA = 5;
    private static final int SLIDE = 6;
    private static final int MOST_GRACES = 4;

    private static final int AFTERBEAT = 1;
    private static final int ANTICIPATION = 2;

    private static final int FLAT = -1;
    private static final int NATURAL = 0;
    private static final int SHARP = 1;
    private static final int NO_SIGN = 2;

    private static final int AS_TOLD = 1;
    private static final int LESS = 2;
    private static final int AWAY = 3;

    private static final int PRINCIPAL = 0;
    private static final int UPPER = 1;
    private static final int LOWER = 2;
    private static final int GRACE = 3;
    private static final int LOW = 4;
    private static final int NEXT_NOTE = 5;

    private static final int[] MORDENT_SHAPE = {PRINCIPAL, LOWER, PRINCIPAL};
    private static final int[] LONG_MORDENT_SHAPE = {PRINCIPAL, LOWER, PRINCIPAL, LOWER, PRINCIPAL};
    private static final int[] PRALL_SHAPE = {UPPER, PRINCIPAL, UPPER, PRINCIPAL};
    private static final int[] SHORT_PRALL_SHAPE = {PRINCIPAL, UPPER, PRINCIPAL};
    private static final int[] TURN_SHAPE = {UPPER, PRINCIPAL, LOWER, PRINCIPAL};
    private static final int[] INVERTED_TURN_SHAPE = {LOWER, PRINCIPAL, UPPER, PRINCIPAL};

    private static final int MOST_TURNS = 64;

    /** Letters are numbered from c on, 0 to 6. */
    private static final String LETTERS = "cdefgab";
    private static final int[] LETTER_NUMBERS = {0, 2, 4, 5, 7, 9, 11};
    /** By letter: how many sharps (flats) a KEY has before the letter's own one comes. */
    private static final int[] SHARPS_BEFORE = {1, 3, 5, 0, 2, 4, 6};
    private static final int[] FLATS_BEFORE = {5, 3, 1, 6, 4, 2, 0};

    private final Reader reader = new Reader();
    private final Writer writer = new Writer();
    private Song song = new Song();
    /** A text is read into this one, so that a FAULT leaves the NOTES as they are. */
    private Song spare = new Song();
    /** Keeps the BODY of a NOTE while another one is tried on paper. */
    private final Note aside = new Note();
    private int fault = 0;
    private int faultPlace = NONE;

    public OrnamentsOut() {
    }

    public int feed(int a, int b, int c, int d, int e) {
        if (reader.taped + 20 > MOST_BYTES) {
            return TOO_MANY;
        }
        reader.putBytes(a);
        reader.putBytes(b);
        reader.putBytes(c);
        reader.putBytes(d);
        reader.putBytes(e);
        return reader.taped;
    }

    public int text(int n) {
        if (n < 0 || n > reader.taped) {
            return CANT_BE;
        }
        reader.start(spare, n);
        boolean good = true;
        for (int lines = 0; lines <= n && good && reader.hasMore(); lines++) {
            good = reader.readLine() && reader.closeLine();
        }
        fault = reader.fault;
        faultPlace = reader.faultPlace;
        if (fault != 0) {
            return FAULTY - fault;
        }
        Song told = spare;
        spare = song;
        song = told;
        writer.stale = true;
        return song.size;
    }

    public int fault(int what) {
        if (what == 0) {
            return fault;
        }
        return what == 1 ? faultPlace : NONE;
    }

    public int terms(int what, int v) {
        if (what < 0 || what >= writer.terms.length) {
            return NO_SUCH;
        }
        if (v < TERMS_LEAST[what] || v > TERMS_MOST[what] || what == TONE && !isPowerOfTwo(v)) {
            return CANT_BE;
        }
        int was = writer.terms[what];
        writer.terms[what] = v;
        writer.stale = true;
        return was;
    }

    public int body(int note, int kind) {
        Note found = song.playedNote(note);
        if (found == null) {
            return NO_SUCH;
        }
        if (!isBody(kind)) {
            return CANT_BE;
        }
        int was = found.body;
        found.putBody(kind);
        writer.stale = true;
        return was;
    }

    public int sign(int note, int up, int sign) {
        Note found = song.playedNote(note);
        if (found == null) {
            return NO_SUCH;
        }
        if (up < 0 || up > 1 || sign < FLAT || sign > NO_SIGN) {
            return CANT_BE;
        }
        if (found.body == 0) {
            return NOT_NOW;
        }
        int was = up == 1 ? found.upSign : found.downSign;
        if (up == 1) {
            found.upSign = sign;
        } else {
            found.downSign = sign;
        }
        writer.stale = true;
        return was;
    }

    public int bare(int note) {
        Note found = song.playedNote(note);
        if (found == null) {
            return NO_SUCH;
        }
        int was = found.prefix;
        found.prefix = 0;
        writer.stale = true;
        if (was == APPOGGIATURA) {
            return 1;
        }
        return was == SLIDE ? 2 : was;
    }

    public int after(int note, int is) {
        Note found = song.playedNote(note);
        if (found == null) {
            return NO_SUCH;
        }
        if (is < 0 || is > ANTICIPATION) {
            return CANT_BE;
        }
        if (is == AFTERBEAT && !takesAfterbeat(found.body)) {
            return NOT_NOW;
        }
        int was = found.behind;
        found.behind = is;
        writer.stale = true;
        return was;
    }

    public int note(int note, int what) {
        Note found = song.anyNote(note);
        if (found == null) {
            return NO_SUCH;
        }
        switch (what) {
            case 0:
                return found.isRest() ? NONE : numberOf(found.pitch);
            case 1:
                return found.bar;
            case 2:
                return found.body;
            case 3:
                return found.prefix;
            case 4:
                return found.behind;
            case 5:
                return found.ties;
            case 6:
                return found.key;
            case 7:
                return found.speed;
            case 8:
            case 9:
            case 10:
                return found.isRest() ? NONE : neighbourNumber(found, what);
            case 11:
            case 12:
            case 13:
                return writer.written(song).verdicts[3 * note + what - 11];
            case 14:
                return found.isRest() ? NONE : writer.written(song).firsts[note];
            case 15:
                return writer.written(song).counts[note];
            default:
                return NO_SUCH_SOUND;
        }
    }

    private int neighbourNumber(Note note, int what) {
        int hold = writer.terms[HOLD];
        if (what == 8) {
            return numberOf(note.upperIn(note.key, hold));
        }
        int lower = note.lowerIn(note.key, hold);
        return numberOf(what == 9 ? lower : note.lowIn(lower, hold));
    }

    public long begin(int note, int what) {
        Note found = song.anyNote(note);
        return found == null ? NO_SUCH : partOf(found.begin, what);
    }

    public long length(int note, int what) {
        Note found = song.anyNote(note);
        return found == null ? NO_SUCH : partOf(found.length, what);
    }

    public long borrowed(int note, int from, int what) {
        if (song.anyNote(note) == null || from < 0 || from > 2) {
            return NO_SUCH;
        }
        Score score = writer.written(song);
        if (from == 0) {
            return partOf(score.borrowedOwn[note], what);
        }
        int borrower = from == 1 ? note : note + 1;
        return partOf(borrower < song.size ? score.borrowedAhead[borrower] : 0, what);
    }

    public long tone(int note, int what) {
        Note found = song.anyNote(note);
        return found == null ? NO_SUCH : partOf(writer.toneAt(found.speed, writer.terms[PERCENT]), what);
    }

    public int milliseconds(int note) {
        Note found = song.anyNote(note);
        if (found == null) {
            return NO_SUCH;
        }
        long divisor = (long) WHOLE * found.speed * writer.terms[PERCENT];
        return divisor <= 0 ? 0 : (int) (found.length * WHOLE_MILLISECONDS / divisor);
    }

    public int sounds(int k, int what) {
        Score score = writer.written(song);
        if (!score.hasTone(k)) {
            return NO_SUCH_SOUND;
        }
        int step = stepOf(score.pitches[k]);
        switch (what) {
            case 0:
                return numberOf(score.pitches[k]);
            case 1:
                return score.owners[k] % 8;
            case 2:
                return score.owners[k] / 8;
            case 3:
                return letterOf(step);
            case 4:
                return octaveOf(step);
            case 5:
                return numberOf(score.pitches[k]) - naturalNumber(step);
            case 6:
                return song.barAt(score.begins[k]);
            default:
                return NO_SUCH_SOUND;
        }
    }

    public long when(int k, int which, int what) {
        Score score = writer.written(song);
        if (!score.hasTone(k) || which < 0 || which > 1) {
            return NO_SUCH;
        }
        return partOf(which == 0 ? score.begins[k] : score.lengths[k], what);
    }

    public int called(int k, int i) {
        Score score = writer.written(song);
        if (!score.hasTone(k)) {
            return NO_SUCH;
        }
        if (i < 0) {
            return CANT_BE;
        }
        int step = stepOf(score.pitches[k]);
        int above = numberOf(score.pitches[k]) - naturalNumber(step);
        StringBuilder name = new StringBuilder();
        name.append(LETTERS.charAt(letterOf(step)));
        for (int signs = 0; signs < Math.abs(above); signs++) {
            name.append(above > 0 ? '+' : '-');
        }
        name.append(octaveOf(step));
        name.append(' ');
        name.append(upperNumber(score.lengths[k]));
        name.append('/');
        name.append(lowerNumber(score.lengths[k]));
        return i < name.length() ? name.charAt(i) : NONE;
    }

    public int at(int upper, int lower) {
        if (upper < 0 || lower < 1 || lower > 10000) {
            return CANT_BE;
        }
        Score score = writer.written(song);
        long moment = (long) upper * WHOLE;
        for (int k = 0; k < score.tones; k++) {
            long begin = (long) score.begins[k] * lower;
            long end = begin + (long) score.lengths[k] * lower;
            if (begin <= moment && moment < end) {
                return k;
            }
        }
        return NONE;
    }

    public long bar(int k, int what) {
        if (k < 0 || k >= song.bars) {
            return NO_SUCH;
        }
        int begin = song.barBegins[k];
        int end = song.barEnd(k);
        switch (what) {
            case 0:
                return writer.written(song).tonesBetween(begin, end);
            case 1:
                return song.notesInBar(k);
            case 2:
            case 3:
                return partOf(end - begin, what - 2);
            case 4:
            case 5:
                return partOf(writer.written(song).soundingBetween(begin, end), what - 4);
            default:
                return NO_SUCH;
        }
    }

    public int inKey(int note, int up, int key) {
        Note found = song.playedNote(note);
        if (found == null) {
            return NO_SUCH;
        }
        if (up < 0 || up > 1 || key < -7 || key > 7) {
            return CANT_BE;
        }
        int hold = writer.terms[HOLD];
        return numberOf(up == 1 ? found.upperIn(key, hold) : found.lowerIn(key, hold));
    }

    public int would(int percent, int what) {
        if (what < 0 || what > 2) {
            return NO_SUCH;
        }
        if (percent < TERMS_LEAST[PERCENT] || percent > TERMS_MOST[PERCENT]) {
            return CANT_BE;
        }
        Score paper = writer.onPaper(song, percent, song.size);
        if (what == 0) {
            return paper.tones;
        }
        return what == 1 ? paper.less : paper.away;
    }

    public int fastest() {
        for (int percent = TERMS_MOST[PERCENT]; percent >= TERMS_LEAST[PERCENT]; percent--) {
            if (writer.isAllAsTold(song, percent)) {
                return percent;
            }
        }
        return NONE;
    }

    public int bears(int note) {
        if (song.anyNote(note) == null) {
            return NO_SUCH;
        }
        for (int percent = TERMS_MOST[PERCENT]; percent >= TERMS_LEAST[PERCENT]; percent--) {
            if (writer.onPaper(song, percent, note + 1).isAsTold(note)) {
                return percent;
            }
        }
        return NONE;
    }

    public int instead(int note, int kind) {
        Note found = song.playedNote(note);
        if (found == null) {
            return NO_SUCH;
        }
        if (!isBody(kind)) {
            return CANT_BE;
        }
        aside.takeBodyOf(found);
        found.putBody(kind);
        int tones = writer.onPaper(song, writer.terms[PERCENT], song.size).tones;
        found.takeBodyOf(aside);
        return tones;
    }

    public int richest(int note) {
        Note found = song.playedNote(note);
        if (found == null) {
            return NO_SUCH;
        }
        int best = 0;
        int most = -1;
        aside.takeBodyOf(found);
        for (int kind = 0; kind <= CADENCE; kind++) {
            found.putBody(kind);
            int tones = writer.onPaper(song, writer.terms[PERCENT], note + 1).counts[note];
            found.takeBodyOf(aside);
            if (tones > most) {
                most = tones;
                best = kind;
            }
        }
        return best;
    }

    public int quick() {
        Score score = writer.written(song);
        int many = 0;
        for (int k = 0; k < score.tones; k++) {
            Note owner = song.anyNote(score.owners[k] / 8);
            if (owner != null && writer.isQuick(score.lengths[k], owner.speed, writer.terms[PERCENT])) {
                many++;
            }
        }
        return many;
    }

    public int greediest() {
        Score score = writer.written(song);
        int best = NONE;
        int most = 0;
        for (int i = 0; i < song.size; i++) {
            int taken = score.borrowedOwn[i] + score.borrowedAhead[i];
            if (taken > most) {
                most = taken;
                best = i;
            }
        }
        return best;
    }

    public long count(int what) {
        switch (what) {
            case 0:
                return song.size;
            case 1:
                return writer.written(song).tones;
            case 2:
                return song.bars;
            case 3:
                return reader.taped;
            case 4:
                return writer.written(song).less;
            case 5:
                return writer.written(song).away;
            case 6:
                return song.plainNotes();
            case 7:
            case 8:
                return partOf(song.end, what - 7);
            default:
                return what >= 10 && what < 10 + writer.terms.length ? writer.terms[what - 10] : NONE;
        }
    }

    private static boolean isBody(int kind) {
        return kind >= 0 && kind <= CADENCE;
    }

    private static boolean takesAfterbeat(int body) {
        return body == TRILL || body == CADENCE;
    }

    private static boolean isPowerOfTwo(int n) {
        return n > 0 && (n & (n - 1)) == 0;
    }

    private static long partOf(int time, int what) {
        if (what == 0) {
            return upperNumber(time);
        }
        return what == 1 ? lowerNumber(time) : NO_SUCH;
    }

    /** WHOLE has no prime but 2, so that halving finds the lowest terms. */
    private static int upperNumber(int time) {
        int upper = time;
        for (int lower = WHOLE; lower > 1 && upper % 2 == 0; lower /= 2) {
            upper /= 2;
        }
        return upper;
    }

    private static int lowerNumber(int time) {
        int lower = WHOLE;
        for (int rest = time; lower > 1 && rest % 2 == 0; rest /= 2) {
            lower /= 2;
        }
        return lower;
    }

    /** A pitch is one int: a step (7 times the octave, and the letter) and the number that sounds. */
    private static int pitchOf(int step, int number) {
        return number * 128 + step + 8;
    }

    private static int numberOf(int pitch) {
        return pitch >> 7;
    }

    private static int stepOf(int pitch) {
        return (pitch & 127) - 8;
    }

    private static int letterOf(int step) {
        return Math.floorMod(step, 7);
    }

    private static int octaveOf(int step) {
        return Math.floorDiv(step, 7);
    }

    private static int naturalNumber(int step) {
        return 12 * (Math.floorDiv(step, 7) + 1) + LETTER_NUMBERS[Math.floorMod(step, 7)];
    }

    private static int keySign(int step, int key) {
        int letter = Math.floorMod(step, 7);
        if (SHARPS_BEFORE[letter] < key) {
            return SHARP;
        }
        return FLATS_BEFORE[letter] < -key ? FLAT : NATURAL;
    }

    /** The number of a step by a SIGN, if one is told, else by the KEY. */
    private static int numberBy(int step, int sign, int key) {
        return naturalNumber(step) + (sign != NO_SIGN ? sign : keySign(step, key));
    }

    /** A NOTE as the text and later calls tell it. */
    private static final class Note {
        private int pitch;
        private int begin;
        private int length;
        private int bar;
        private int key;
        private int speed;
        private int ties;
        private int prefix;
        private final int[] graces = new int[MOST_GRACES];
        private int body;
        private int upSign;
        private int downSign;
        private int behind;
        /** The SIGNS that the BAR has told for the steps around, ahead of this NOTE's PREFIX. */
        private int heldUpper;
        private int heldLower;
        private int heldLow;

        private void clear() {
            pitch = NONE;
            length = 0;
            ties = 0;
            prefix = 0;
            behind = 0;
            putBody(0);
        }

        private boolean isRest() {
            return pitch < 0;
        }

        private void putBody(int kind) {
            body = kind;
            upSign = NO_SIGN;
            downSign = NO_SIGN;
            if (behind == AFTERBEAT && !takesAfterbeat(kind)) {
                behind = 0;
            }
        }

        /** All that putBody can change. */
        private void takeBodyOf(Note other) {
            body = other.body;
            upSign = other.upSign;
            downSign = other.downSign;
            behind = other.behind;
        }

        private int upperIn(int inKey, int hold) {
            int step = stepOf(pitch) + 1;
            int told = upSign != NO_SIGN ? upSign : hold == 1 ? heldUpper : NO_SIGN;
            return pitchOf(step, Math.max(numberBy(step, told, inKey), numberOf(pitch) + 1));
        }

        private int lowerIn(int inKey, int hold) {
            int step = stepOf(pitch) - 1;
            int told = downSign != NO_SIGN ? downSign : hold == 1 ? heldLower : NO_SIGN;
            return pitchOf(step, Math.min(numberBy(step, told, inKey), numberOf(pitch) - 1));
        }

        private int lowIn(int lower, int hold) {
            int step = stepOf(pitch) - 2;
            int told = hold == 1 ? heldLow : NO_SIGN;
            return pitchOf(step, Math.min(numberBy(step, told, key), numberOf(lower) - 1));
        }
    }

    /** NOTES and BARS of one text. */
    private static final class Song {
        /** One more than may stand, because a 49th NOTE is refused only behind its last token. */
        private final Note[] notes = new Note[MOST_NOTES + 1];
        private int size = 0;
        private final int[] barBegins = new int[MOST_BARS];
        private int bars = 0;
        private int end = 0;

        private Song() {
            for (int i = 0; i < notes.length; i++) {
                notes[i] = new Note();
            }
        }

        private void clear() {
            size = 0;
            bars = 0;
            end = 0;
        }

        private Note anyNote(int note) {
            return note >= 0 && note < size && note < notes.length ? notes[note] : null;
        }

        /** The NOTE, if it isn't a rest. */
        private Note playedNote(int note) {
            Note found = anyNote(note);
            return found == null || found.isRest() ? null : found;
        }

        private void addBar() {
            if (bars < barBegins.length) {
                barBegins[bars] = end;
                bars++;
            }
        }

        private int barEnd(int k) {
            return k + 1 < bars ? barBegins[k + 1] : end;
        }

        private int barAt(int time) {
            int found = 0;
            for (int k = 1; k < bars && barBegins[k] <= time; k++) {
                found = k;
            }
            return found;
        }

        private int notesInBar(int k) {
            int many = 0;
            for (int i = 0; i < size; i++) {
                if (notes[i].bar == k) {
                    many++;
                }
            }
            return many;
        }

        private int plainNotes() {
            int many = 0;
            for (int i = 0; i < size; i++) {
                Note note = notes[i];
                if (!note.isRest() && note.prefix == 0 && note.body == 0 && note.behind != ANTICIPATION) {
                    many++;
                }
            }
            return many;
        }
    }

    /** Reads a text from THE TAPE into a song; every reading method is false at a FAULT. */
    private static final class Reader {
        private static final int END = 0;
        private static final int WORD = 1;
        private static final int NUMBER = 2;
        private static final int OTHER = 3;
        private static final int MOST_STEPS = 63;

        private final int[] tape = new int[MOST_BYTES];
        private int taped = 0;
        private int size = 0;
        private int next = 0;
        private int token = END;
        private int start = 0;
        /** Of a number what it is, of another byte which. */
        private int value = 0;
        private int lineStart = 0;
        /** What the latest reading method read. */
        private int read = 0;
        private Song song = null;
        private int key = 0;
        private int speed = 100;
        private int meter = WHOLE;
        private int barEnd = 0;
        private boolean toldTwice = false;
        /** By step: the SIGN that this BAR told last. */
        private final int[] toldSigns = new int[MOST_STEPS];
        private int fault = 0;
        private int faultPlace = NONE;

        private void putBytes(int four) {
            for (int shift = 24; shift >= 0; shift -= 8) {
                if (taped < tape.length) {
                    tape[taped] = (four >>> shift) & 255;
                    taped++;
                }
            }
        }

        /** THE TAPE is empty from here on; its bytes still lie there to be read. */
        private void start(Song into, int bytes) {
            song = into;
            song.clear();
            size = Math.min(bytes, tape.length);
            taped = 0;
            next = 0;
            key = 0;
            speed = 100;
            meter = WHOLE;
            barEnd = 0;
            fault = 0;
            faultPlace = NONE;
            advance();
        }

        private boolean hasMore() {
            return token != END;
        }

        private boolean closeLine() {
            return takeByte(';') || fail(1, start);
        }

        private boolean readLine() {
            lineStart = start;
            if (takeWord("note")) {
                return readNote();
            }
            if (takeWord("rest")) {
                return readRest();
            }
            if (takeWord("tie")) {
                return readTie();
            }
            if (takeWord("key")) {
                return readKey();
            }
            if (takeWord("meter")) {
                return readMeter();
            }
            return takeWord("speed") ? readSpeed() : fail(1, start);
        }

        private boolean readKey() {
            boolean flats = takeByte('-');
            if (!readNumber(0, 7)) {
                return false;
            }
            key = flats ? -read : read;
            return true;
        }

        private boolean readMeter() {
            if (!readFraction(16, 16)) {
                return false;
            }
            if (song.end != barEnd) {
                return fail(3, lineStart);
            }
            meter = read;
            return true;
        }

        private boolean readSpeed() {
            if (!readNumber(20, 400)) {
                return false;
            }
            speed = read;
            return true;
        }

        private boolean readRest() {
            openBar();
            if (!readFraction(32, 32)) {
                return false;
            }
            if (song.size >= MOST_NOTES || song.end + read > barEnd) {
                return fail(3, lineStart);
            }
            Note rest = song.notes[song.size];
            rest.clear();
            addNote(rest, read);
            return true;
        }

        private boolean readTie() {
            openBar();
            if (!readFraction(32, 32)) {
                return false;
            }
            Note tied = song.playedNote(song.size - 1);
            if (tied == null || song.end + read > barEnd) {
                return fail(3, lineStart);
            }
            tied.length += read;
            tied.ties++;
            song.end += read;
            return true;
        }

        private boolean readNote() {
            openBar();
            if (song.size >= song.notes.length) {
                return fail(3, lineStart);
            }
            Note note = song.notes[song.size];
            note.clear();
            if (!readPitch()) {
                return false;
            }
            note.pitch = read;
            holdSigns(note);
            if (!readFraction(32, 32)) {
                return false;
            }
            int length = read;
            if (!readPrefix(note) || !readBody(note)) {
                return false;
            }
            readBehind(note);
            boolean strayAfterbeat = note.behind == AFTERBEAT && !takesAfterbeat(note.body);
            if (song.size >= MOST_NOTES || song.end + length > barEnd || strayAfterbeat || toldTwice) {
                return fail(3, lineStart);
            }
            addNote(note, length);
            return true;
        }

        private void addNote(Note note, int length) {
            note.begin = song.end;
            note.length = length;
            note.bar = song.bars - 1;
            note.key = key;
            note.speed = speed;
            song.size++;
            song.end += length;
        }

        private void openBar() {
            if (song.end == barEnd) {
                song.addBar();
                barEnd += meter;
                Arrays.fill(toldSigns, NO_SIGN);
            }
        }

        private void holdSigns(Note note) {
            int step = stepOf(note.pitch);
            note.heldUpper = toldSign(step + 1);
            note.heldLower = toldSign(step - 1);
            note.heldLow = toldSign(step - 2);
        }

        /** Steps beyond octaves 0 to 8 are neighbours alone; no P tells a SIGN of them. */
        private int toldSign(int step) {
            return step >= 0 && step < toldSigns.length ? toldSigns[step] : NO_SIGN;
        }

        private boolean readPrefix(Note note) {
            if (takeWord("sl")) {
                note.prefix = SLIDE;
                return true;
            }
            boolean graces = takeWord("gr");
            if (!graces && !takeWord("ap")) {
                return true;
            }
            int many = 0;
            do {
                if (!readPitch()) {
                    return false;
                }
                note.graces[many] = read;
                many++;
            } while (graces && many < MOST_GRACES && letterHere() >= 0);
            note.prefix = graces ? many : APPOGGIATURA;
            return true;
        }

        private boolean readBody(Note note) {
            toldTwice = false;
            note.body = bodyHere();
            if (note.body == 0) {
                return true;
            }
            advance();
            for (int signs = 0; signs < size; signs++) {
                boolean up = takeWord("up");
                if (!up && !takeWord("down")) {
                    return true;
                }
                int sign = signHere();
                if (sign == NO_SIGN) {
                    return fail(1, start);
                }
                advance();
                tellSign(note, up, sign);
            }
            return true;
        }

        private void tellSign(Note note, boolean up, int sign) {
            if ((up ? note.upSign : note.downSign) != NO_SIGN) {
                toldTwice = true;
            }
            if (up) {
                note.upSign = sign;
            } else {
                note.downSign = sign;
            }
        }

        private void readBehind(Note note) {
            if (takeWord("nb")) {
                note.behind = AFTERBEAT;
            } else if (takeWord("an")) {
                note.behind = ANTICIPATION;
            }
        }

        private boolean readPitch() {
            int letter = letterHere();
            if (letter < 0) {
                return fail(1, start);
            }
            advance();
            int sign = signHere();
            if (sign != NO_SIGN) {
                advance();
            }
            if (!readNumber(0, 8)) {
                return false;
            }
            int step = 7 * read + letter;
            if (sign == NO_SIGN) {
                sign = toldSign(step);
            } else if (step >= 0 && step < toldSigns.length) {
                toldSigns[step] = sign;
            }
            read = pitchOf(step, numberBy(step, sign, key));
            return true;
        }

        /** Reads upper / lower; what is read is a time. */
        private boolean readFraction(int mostUpper, int mostLower) {
            if (!readNumber(1, mostUpper)) {
                return false;
            }
            int upper = read;
            if (!takeByte('/')) {
                return fail(1, start);
            }
            if (token == NUMBER && !isPowerOfTwo(value)) {
                return fail(2, start);
            }
            if (!readNumber(1, mostLower)) {
                return false;
            }
            read = read > 0 ? upper * WHOLE / read : 0;
            return true;
        }

        private boolean readNumber(int least, int most) {
            if (token != NUMBER) {
                return fail(1, start);
            }
            if (next - start > 3 || value < least || value > most) {
                return fail(2, start);
            }
            read = value;
            advance();
            return true;
        }

        private boolean takeByte(char sign) {
            if (token != OTHER || value != sign) {
                return false;
            }
            advance();
            return true;
        }

        private boolean takeWord(String word) {
            if (token != WORD || next - start != word.length()) {
                return false;
            }
            for (int i = 0; i < word.length(); i++) {
                if (tape[start + i] != word.charAt(i)) {
                    return false;
                }
            }
            advance();
            return true;
        }

        /** 0 c to 6 b, if the token is a letter of P; else below 0. */
        private int letterHere() {
            return token == WORD && next - start == 1 ? LETTERS.indexOf((char) tape[start]) : NONE;
        }

        private int signHere() {
            if (token != OTHER) {
                return NO_SIGN;
            }
            if (value == '+') {
                return SHARP;
            }
            if (value == '-') {
                return FLAT;
            }
            return value == '=' ? NATURAL : NO_SIGN;
        }

        private int bodyHere() {
            if (token != WORD || next - start != 2) {
                return 0;
            }
            for (int kind = TRILL; kind <= CADENCE; kind++) {
                int place = 2 * (kind - TRILL);
                if (tape[start] == BODY_WORDS.charAt(place) && tape[start + 1] == BODY_WORDS.charAt(place + 1)) {
                    return kind;
                }
            }
            return 0;
        }

        private void advance() {
            while (next < size && tape[next] == ' ') {
                next++;
            }
            start = next;
            value = 0;
            if (next >= size) {
                token = END;
            } else if (tape[next] >= 'a' && tape[next] <= 'z') {
                token = WORD;
                while (next < size && tape[next] >= 'a' && tape[next] <= 'z') {
                    next++;
                }
            } else if (tape[next] >= '0' && tape[next] <= '9') {
                token = NUMBER;
                while (next < size && tape[next] >= '0' && tape[next] <= '9') {
                    // Longer numbers are a FAULT whatever they are; so none gets too great for an int.
                    value = value < 1000 ? 10 * value + tape[next] - '0' : value;
                    next++;
                }
            } else {
                token = OTHER;
                value = tape[next];
                next++;
            }
        }

        private boolean fail(int which, int where) {
            fault = which;
            faultPlace = where;
            return false;
        }
    }

    /** What a writing out made: the TONES and what became of each NOTE. */
    private static final class Score {
        /** On paper TONES are but counted. */
        private final boolean kept;
        private int tones = 0;
        private int[] pitches;
        private int[] owners;
        private int[] begins;
        private int[] lengths;
        /** Where the next TONE would begin. */
        private int cursor = 0;
        /** LAST is there. */
        private boolean linked = false;
        private int latestPitch = 0;
        private int latestLength = 0;
        private int less = 0;
        private int away = 0;
        private final int[] verdicts = new int[3 * MOST_NOTES];
        private final int[] firsts = new int[MOST_NOTES];
        private final int[] counts = new int[MOST_NOTES];
        private final int[] borrowedOwn = new int[MOST_NOTES];
        private final int[] borrowedAhead = new int[MOST_NOTES];

        private Score(boolean kept) {
            this.kept = kept;
            int rows = kept ? 2 * MOST_TONES_OF_NOTE : 0;
            pitches = new int[rows];
            owners = new int[rows];
            begins = new int[rows];
            lengths = new int[rows];
        }

        private void clear() {
            tones = 0;
            cursor = 0;
            linked = false;
            less = 0;
            away = 0;
        }

        private void openNote(int note) {
            if (kept && tones + MOST_TONES_OF_NOTE > pitches.length) {
                int rows = Math.min(2 * pitches.length + MOST_TONES_OF_NOTE, MOST_NOTES * MOST_TONES_OF_NOTE);
                pitches = Arrays.copyOf(pitches, rows);
                owners = Arrays.copyOf(owners, rows);
                begins = Arrays.copyOf(begins, rows);
                lengths = Arrays.copyOf(lengths, rows);
            }
            firsts[note] = tones;
            borrowedOwn[note] = 0;
            borrowedAhead[note] = 0;
        }

        private void closeNote(int note, int prefix, int body, int behind) {
            counts[note] = tones - firsts[note];
            putVerdict(3 * note, prefix);
            putVerdict(3 * note + 1, body);
            putVerdict(3 * note + 2, behind);
        }

        private void putVerdict(int place, int verdict) {
            verdicts[place] = verdict;
            if (verdict == LESS) {
                less++;
            } else if (verdict == AWAY) {
                away++;
            }
        }

        private boolean isAsTold(int note) {
            int place = 3 * note;
            return verdicts[place] <= AS_TOLD && verdicts[place + 1] <= AS_TOLD && verdicts[place + 2] <= AS_TOLD;
        }

        private void addTone(int note, int kind, int pitch, int length) {
            if (kept && tones < pitches.length) {
                pitches[tones] = pitch;
                owners[tones] = 8 * note + kind;
                begins[tones] = cursor;
                lengths[tones] = length;
            }
            tones++;
            cursor += length;
            linked = true;
            latestPitch = pitch;
            latestLength = length;
        }

        private void countTones(int many, int length) {
            tones += many;
            cursor += length;
        }

        private void addRest(int length) {
            cursor += length;
            linked = false;
        }

        private void shortenLatest(int by) {
            cursor -= by;
            latestLength -= by;
            if (kept && tones > 0 && tones <= lengths.length) {
                lengths[tones - 1] -= by;
            }
        }

        private boolean hasTone(int k) {
            return k >= 0 && k < tones && k < pitches.length;
        }

        private int tonesBetween(int begin, int end) {
            int many = 0;
            for (int k = 0; k < tones; k++) {
                if (begins[k] >= begin && begins[k] < end) {
                    many++;
                }
            }
            return many;
        }

        private int soundingBetween(int begin, int end) {
            int time = 0;
            for (int k = 0; k < tones; k++) {
                time += Math.max(0, Math.min(end, begins[k] + lengths[k]) - Math.max(begin, begins[k]));
            }
            return time;
        }
    }

    /** Writes NOTES out as TONES by the TERMS. */
    private static final class Writer {
        private final int[] terms = {70, 32, 1, 1, 0, 100, 0};
        private final Score standing = new Score(true);
        private final Score paper = new Score(false);
        /** Changes only mark what stands, so that many of them cost one writing. */
        private boolean stale = false;
        private Song song = null;
        private Score score = null;
        private int percent = 0;
        private int index = 0;
        private Note note = null;
        /** The one behind, if it is a note. */
        private Note next = null;
        /** T of the NOTE. */
        private int tone = 0;
        /** R: what BODY has of the NOTE's time. */
        private int left = 0;
        /** Of the NOTE, by KIND. */
        private final int[] pitches = new int[5];
        private boolean afterbeatPlayed = false;

        private Score written(Song told) {
            if (stale) {
                start(told, standing, terms[PERCENT]);
                for (int i = 0; i < told.size; i++) {
                    writeNote(i);
                }
                stale = false;
            }
            return standing;
        }

        /** The first NOTES, were PERCENT another one. */
        private Score onPaper(Song told, int byPercent, int many) {
            start(told, paper, byPercent);
            for (int i = 0; i < many && i < told.size; i++) {
                writeNote(i);
            }
            return paper;
        }

        private boolean isAllAsTold(Song told, int byPercent) {
            start(told, paper, byPercent);
            for (int i = 0; i < told.size; i++) {
                writeNote(i);
                if (!paper.isAsTold(i)) {
                    return false;
                }
            }
            return true;
        }

        private void start(Song told, Score into, int byPercent) {
            song = told;
            score = into;
            percent = byPercent;
            score.clear();
        }

        private boolean isQuick(int time, int speed, int byPercent) {
            return time * WHOLE_MILLISECONDS < (long) terms[LIMIT] * WHOLE * speed * byPercent;
        }

        private int toneAt(int speed, int byPercent) {
            int time = terms[TONE] > 0 ? WHOLE / terms[TONE] : WHOLE;
            for (int doublings = 0; doublings < 16 && isQuick(time, speed, byPercent); doublings++) {
                time *= 2;
            }
            return time;
        }

        private void writeNote(int i) {
            index = i;
            note = song.notes[i];
            next = song.playedNote(i + 1);
            score.openNote(i);
            if (note.isRest()) {
                score.addRest(note.length);
                score.closeNote(i, 0, 0, 0);
                return;
            }
            tone = toneAt(note.speed, percent);
            left = note.length;
            pitches[PRINCIPAL] = note.pitch;
            pitches[UPPER] = note.upperIn(note.key, terms[HOLD]);
            pitches[LOWER] = note.lowerIn(note.key, terms[HOLD]);
            pitches[LOW] = note.lowIn(pitches[LOWER], terms[HOLD]);
            afterbeatPlayed = false;
            int prefix = playPrefix();
            int body = playBody();
            if (body == 0 || body == AWAY) {
                play(PRINCIPAL, left);
            }
            score.closeNote(i, prefix, body, playBehind());
        }

        private void play(int kind, int length) {
            score.addTone(index, kind, pitches[kind], length);
        }

        private int playPrefix() {
            if (note.prefix == 0) {
                return 0;
            }
            if (note.prefix == APPOGGIATURA) {
                return playAppoggiatura();
            }
            return note.prefix == SLIDE ? playSlide() : playGraces(note.prefix);
        }

        private int playGraces(int many) {
            if (terms[AHEAD] == 1 && score.linked && 2 * many * tone <= score.latestLength) {
                score.shortenLatest(many * tone);
                score.borrowedAhead[index] = many * tone;
                addGraces(0, many, tone);
                return AS_TOLD;
            }
            int played = many;
            while (played > 0 && 2 * played * tone > note.length) {
                played--;
            }
            takeOfNote(played * tone);
            addGraces(many - played, many, tone);
            if (played == many) {
                return AS_TOLD;
            }
            return played > 0 ? LESS : AWAY;
        }

        private int playAppoggiatura() {
            int taken = upperNumber(note.length) == 3 ? note.length / 3 * 2 : note.length / 2;
            if (isQuick(taken, note.speed, percent)) {
                return AWAY;
            }
            takeOfNote(taken);
            addGraces(0, 1, taken);
            return AS_TOLD;
        }

        private int playSlide() {
            if (2 * tone > note.length) {
                return AWAY;
            }
            boolean both = 4 * tone <= note.length;
            if (both) {
                play(LOW, tone);
            }
            play(LOWER, tone);
            takeOfNote(both ? 2 * tone : tone);
            return both ? AS_TOLD : LESS;
        }

        private void takeOfNote(int time) {
            left -= time;
            score.borrowedOwn[index] = time;
        }

        private void addGraces(int from, int to, int length) {
            for (int i = Math.max(0, from); i < to && i < note.graces.length; i++) {
                score.addTone(index, GRACE, note.graces[i], length);
            }
        }

        private int playBody() {
            switch (note.body) {
                case TRILL:
                    return playTurns() ? AS_TOLD : lessUnlessAway(playPrall());
                case MORDENT:
                    return playShape(MORDENT_SHAPE, tone) ? AS_TOLD : AWAY;
                case PRALL:
                    return playPrall();
                case TURN:
                    return playTurn(TURN_SHAPE) ? AS_TOLD : AWAY;
                case DELAYED_TURN:
                    if (playDelayedTurn()) {
                        return AS_TOLD;
                    }
                    return playTurn(TURN_SHAPE) ? LESS : AWAY;
                case INVERTED_TURN:
                    return playTurn(INVERTED_TURN_SHAPE) ? AS_TOLD : AWAY;
                case LONG_MORDENT:
                    if (playShape(LONG_MORDENT_SHAPE, tone)) {
                        return AS_TOLD;
                    }
                    return playShape(MORDENT_SHAPE, tone) ? LESS : AWAY;
                case CADENCE:
                    boolean joined = playJoin();
                    if (playTurns()) {
                        return joined ? AS_TOLD : LESS;
                    }
                    return lessUnlessAway(playPrall());
                default:
                    return 0;
            }
        }

        private static int lessUnlessAway(int verdict) {
            return verdict == AWAY ? AWAY : LESS;
        }

        /** Each but the last TONE is so long; that is as long as is left. */
        private boolean playShape(int[] shape, int each) {
            if (shape.length * each > left) {
                return false;
            }
            for (int i = 0; i + 1 < shape.length; i++) {
                score.addTone(index, shape[i], pitches[shape[i]], each);
                left -= each;
            }
            score.addTone(index, PRINCIPAL, note.pitch, left);
            return true;
        }

        private boolean isBehindUpper() {
            boolean upperSounded = score.linked && numberOf(score.latestPitch) == numberOf(pitches[UPPER]);
            return upperSounded || terms[STYLE] == 1;
        }

        private int playPrall() {
            if (isBehindUpper()) {
                return playShape(SHORT_PRALL_SHAPE, tone) ? AS_TOLD : AWAY;
            }
            if (playShape(PRALL_SHAPE, tone)) {
                return AS_TOLD;
            }
            return playShape(SHORT_PRALL_SHAPE, tone) ? LESS : AWAY;
        }

        private boolean playTurn(int[] shape) {
            if (playShape(shape, tone)) {
                return true;
            }
            return !isQuick(left / 4, note.speed, percent) && playShape(shape, left / 4);
        }

        private boolean playDelayedTurn() {
            int eighth = left / 8;
            if (isQuick(eighth, note.speed, percent)) {
                return false;
            }
            play(PRINCIPAL, 4 * eighth);
            left -= 4 * eighth;
            return playShape(TURN_SHAPE, eighth);
        }

        /** LOWER, PRINCIPAL of dc, if the turns fit behind them. */
        private boolean playJoin() {
            // Behind its own PRINCIPAL a trill is BEHIND UPPER by STYLE alone.
            if (turnsIn(left - 2 * tone, terms[STYLE] == 1) == 0) {
                return false;
            }
            play(LOWER, tone);
            play(PRINCIPAL, tone);
            left -= 2 * tone;
            return true;
        }

        private boolean playTurns() {
            boolean fromPrincipal = isBehindUpper();
            if (wantsAfterbeat() && addTurns(fromPrincipal, left - 2 * tone)) {
                play(LOWER, tone);
                play(PRINCIPAL, tone);
                afterbeatPlayed = true;
                return true;
            }
            return addTurns(fromPrincipal, left);
        }

        private boolean wantsAfterbeat() {
            if (note.behind == AFTERBEAT) {
                return true;
            }
            return terms[AFTER] == 1 && next != null && numberOf(next.pitch) == numberOf(pitches[UPPER]);
        }

        /** How many turns fit, so that PRINCIPAL is the last one; 0 if they are too few. */
        private int turnsIn(int time, boolean fromPrincipal) {
            int fit = tone > 0 && time > 0 ? Math.min(MOST_TURNS, time / tone) : 0;
            boolean oneTooMany = (fit % 2 == 1) != fromPrincipal;
            int turns = oneTooMany ? fit - 1 : fit;
            return turns >= (fromPrincipal ? 3 : 4) ? turns : 0;
        }

        private boolean addTurns(boolean fromPrincipal, int time) {
            int many = turnsIn(time, fromPrincipal);
            if (many == 0) {
                return false;
            }
            if (score.kept) {
                for (int i = 0; i + 1 < many; i++) {
                    play((i % 2 == 0) == fromPrincipal ? PRINCIPAL : UPPER, tone);
                }
            } else {
                score.countTones(many - 1, (many - 1) * tone);
            }
            play(PRINCIPAL, time - (many - 1) * tone);
            return true;
        }

        private int playBehind() {
            if (note.behind == AFTERBEAT) {
                return afterbeatPlayed ? AS_TOLD : AWAY;
            }
            if (note.behind != ANTICIPATION) {
                return 0;
            }
            if (next == null || 2 * tone > score.latestLength) {
                return AWAY;
            }
            score.shortenLatest(tone);
            score.addTone(index, NEXT_NOTE, next.pitch, tone);
            return AS_TOLD;
        }
    }
}
