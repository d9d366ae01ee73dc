import java.util.ArrayList;
import java.util.List;

/**
 * The document once more, slowly: with fractions of longs, lists and exceptions, and with everything made anew from
 * the text at each question. ModelTest compares the class with it.
 */
final class Model {
    static final int NONE = -1;
    private static final String LETTERS = "cdefgab";
    private static final String FLATS = "beadgcf";
    private static final String SHARPS = "fcgdaeb";
    private static final int[] NATURAL = {0, 2, 4, 5, 7, 9, 11};
    private static final List<String> BODIES = List.of("", "tr", "mo", "pr", "tu", "dt", "it", "lm", "dc");

    record Frac(long up, long low) {
        static Frac of(long up, long low) {
            long a = Math.abs(up);
            long b = low;
            while (b != 0) {
                long c = a % b;
                a = b;
                b = c;
            }
            return new Frac(up / a, low / a);
        }

        Frac plus(Frac x) {
            return of(up * x.low + x.up * low, low * x.low);
        }

        Frac less(Frac x) {
            return of(up * x.low - x.up * low, low * x.low);
        }

        Frac times(long n) {
            return of(up * n, low);
        }

        Frac by(long n) {
            return of(up, low * n);
        }

        int to(Frac x) {
            return Long.compare(up * x.low, x.up * low);
        }

        boolean within(Frac x) {
            return to(x) <= 0;
        }
    }

    private static final Frac ZERO = Frac.of(0, 1);

    private static final class Fault extends Exception {
        final int which;
        final int place;

        Fault(int which, int place) {
            super(null, null, false, false);
            this.which = which;
            this.place = place;
        }
    }

    private record Token(char type, String text, int place) {
    }

    /** A P as it stands in the text; sign 2: none told. */
    private record P(int letter, int octave, int sign, int number, int bar) {
    }

    private record Pitch(int letter, int octave, int number) {
    }

    private static final class N {
        P p;
        int pOrder;
        Frac begin;
        Frac length;
        int bar;
        int key;
        int speed;
        int ties;
        String prefix = "";
        List<P> graces = new ArrayList<>();
        String body = "";
        int up = 2;
        int down = 2;
        String behind = "";

        boolean rest() {
            return p == null;
        }

        void setBody(String kind) {
            body = kind;
            up = 2;
            down = 2;
            if (behind.equals("nb") && !kind.equals("tr") && !kind.equals("dc")) {
                behind = "";
            }
        }
    }

    private static final class Tone {
        Pitch pitch;
        int kind;
        int note;
        Frac begin;
        Frac length;
    }

    private static final class Out {
        List<Tone> tones = new ArrayList<>();
        List<int[]> verdicts = new ArrayList<>();
        List<Frac> own = new ArrayList<>();
        List<Frac> ahead = new ArrayList<>();

        int verdictsOf(int which) {
            int many = 0;
            for (int[] three : verdicts) {
                for (int v : three) {
                    many += v == which ? 1 : 0;
                }
            }
            return many;
        }

        int tonesOf(int note) {
            int many = 0;
            for (Tone t : tones) {
                many += t.note == note ? 1 : 0;
            }
            return many;
        }
    }

    private final List<Integer> tape = new ArrayList<>();
    private List<N> notes = new ArrayList<>();
    private List<P> told = new ArrayList<>();
    private List<Frac> bars = new ArrayList<>();
    private Frac end = ZERO;
    private final int[] terms = {70, 32, 1, 1, 0, 100, 0};
    private int fault = 0;
    private int place = NONE;

    // ---- text

    int feed(int a, int b, int c, int d, int e) {
        if (tape.size() > 780) {
            return -4;
        }
        for (int x : new int[] {a, b, c, d, e}) {
            tape.add(x >>> 24);
            tape.add(x >>> 16 & 255);
            tape.add(x >>> 8 & 255);
            tape.add(x & 255);
        }
        return tape.size();
    }

    int text(int n) {
        if (n < 0 || n > tape.size()) {
            return -3;
        }
        List<Token> tokens = tokens(n);
        tape.clear();
        Parse parse = new Parse(tokens);
        try {
            parse.all();
        } catch (Fault f) {
            fault = f.which;
            place = f.place;
            return -30 - fault;
        }
        fault = 0;
        place = NONE;
        notes = parse.notes;
        told = parse.told;
        bars = parse.bars;
        end = parse.now;
        return notes.size();
    }

    private List<Token> tokens(int n) {
        List<Token> all = new ArrayList<>();
        int i = 0;
        while (i < n) {
            int from = i;
            char type = typeOf(tape.get(i));
            StringBuilder text = new StringBuilder();
            do {
                text.append((char) (int) tape.get(i));
                i++;
            } while (i < n && type != 'o' && type != ' ' && typeOf(tape.get(i)) == type);
            if (type != ' ') {
                all.add(new Token(type, text.toString(), from));
            }
        }
        all.add(new Token('e', "", n));
        return all;
    }

    private static char typeOf(int one) {
        if (one == 32) {
            return ' ';
        }
        if (one >= 97 && one <= 122) {
            return 'w';
        }
        return one >= 48 && one <= 57 ? 'n' : 'o';
    }

    private static final class Parse {
        final List<Token> tokens;
        int i = 0;
        final List<N> notes = new ArrayList<>();
        final List<P> told = new ArrayList<>();
        final List<Frac> bars = new ArrayList<>();
        Frac now = ZERO;
        Frac barEnd = ZERO;
        Frac meter = Frac.of(1, 1);
        int key = 0;
        int speed = 100;

        Parse(List<Token> tokens) {
            this.tokens = tokens;
        }

        Token here() {
            return tokens.get(i);
        }

        boolean is(String text) {
            return here().text.equals(text);
        }

        boolean take(String text) {
            if (is(text)) {
                i++;
                return true;
            }
            return false;
        }

        void need(boolean good) throws Fault {
            if (!good) {
                throw new Fault(1, here().place);
            }
        }

        int number(int least, int most) throws Fault {
            need(here().type == 'n');
            if (here().text.length() > 3) {
                throw new Fault(2, here().place);
            }
            int n = Integer.parseInt(here().text);
            if (n < least || n > most) {
                throw new Fault(2, here().place);
            }
            i++;
            return n;
        }

        Frac fraction(int mostUpper, List<Integer> lowers) throws Fault {
            int upper = number(1, mostUpper);
            need(take("/"));
            int at = here().place;
            int lower = number(1, 999);
            if (!lowers.contains(lower)) {
                throw new Fault(2, at);
            }
            return Frac.of(upper, lower);
        }

        int sign() {
            if (take("+")) {
                return 1;
            }
            if (take("-")) {
                return -1;
            }
            return take("=") ? 0 : 2;
        }

        P pitch() throws Fault {
            int letter = here().text.length() == 1 ? LETTERS.indexOf(here().text.charAt(0)) : -1;
            need(letter >= 0);
            i++;
            int sign = sign();
            int octave = number(0, 8);
            int by = sign;
            for (P p : told) {
                if (sign == 2 && p.bar == bars.size() - 1 && p.letter == letter && p.octave == octave && p.sign != 2) {
                    by = p.sign;
                }
            }
            if (by == 2) {
                by = keySign(letter, key);
            }
            P p = new P(letter, octave, sign, 12 * (octave + 1) + NATURAL[letter] + by, bars.size() - 1);
            told.add(p);
            return p;
        }

        void beginBar() {
            if (now.equals(barEnd)) {
                bars.add(now);
                barEnd = barEnd.plus(meter);
            }
        }

        void all() throws Fault {
            while (here().type != 'e') {
                int at = here().place;
                String word = here().text;
                need(List.of("key", "meter", "speed", "rest", "note", "tie").contains(word));
                i++;
                boolean stands = line(word);
                if (!stands) {
                    throw new Fault(3, at);
                }
                need(take(";"));
            }
        }

        boolean line(String word) throws Fault {
            switch (word) {
                case "key":
                    boolean minus = take("-");
                    int k = number(0, 7);
                    key = minus ? -k : k;
                    return true;
                case "speed":
                    speed = number(20, 400);
                    return true;
                case "meter":
                    meter = fraction(16, List.of(1, 2, 4, 8, 16));
                    return now.equals(barEnd);
                default:
                    beginBar();
                    return word.equals("tie") ? tie() : word.equals("rest") ? add(new N(), duration()) : note();
            }
        }

        Frac duration() throws Fault {
            return fraction(32, List.of(1, 2, 4, 8, 16, 32));
        }

        boolean tie() throws Fault {
            Frac more = duration();
            if (notes.isEmpty() || notes.get(notes.size() - 1).rest() || !now.plus(more).within(barEnd)) {
                return false;
            }
            N n = notes.get(notes.size() - 1);
            n.length = n.length.plus(more);
            n.ties++;
            now = now.plus(more);
            return true;
        }

        boolean add(N n, Frac length) {
            n.begin = now;
            n.length = length;
            n.bar = bars.size() - 1;
            n.key = key;
            n.speed = speed;
            notes.add(n);
            now = now.plus(length);
            return notes.size() <= 48 && now.within(barEnd);
        }

        boolean note() throws Fault {
            N n = new N();
            n.p = pitch();
            n.pOrder = told.size() - 1;
            Frac length = duration();
            if (is("gr") || is("ap") || is("sl")) {
                n.prefix = here().text;
                i++;
            }
            if (n.prefix.equals("gr") || n.prefix.equals("ap")) {
                n.graces.add(pitch());
            }
            while (n.prefix.equals("gr") && n.graces.size() < 4 && here().text.matches("[a-g]")) {
                n.graces.add(pitch());
            }
            int ups = 0;
            int downs = 0;
            if (here().type == 'w' && BODIES.contains(here().text)) {
                n.body = here().text;
                i++;
                while (is("up") || is("down")) {
                    boolean up = is("up");
                    i++;
                    int sign = sign();
                    need(sign != 2);
                    ups += up ? 1 : 0;
                    downs += up ? 0 : 1;
                    n.up = up ? sign : n.up;
                    n.down = up ? n.down : sign;
                }
            }
            if (is("nb") || is("an")) {
                n.behind = here().text;
                i++;
            }
            boolean strayNb = n.behind.equals("nb") && !n.body.equals("tr") && !n.body.equals("dc");
            return add(n, length) && !strayNb && ups < 2 && downs < 2;
        }
    }

    private static int keySign(int letter, int key) {
        String name = LETTERS.substring(letter, letter + 1);
        if (key < 0 && FLATS.substring(0, -key).contains(name)) {
            return -1;
        }
        return key > 0 && SHARPS.substring(0, key).contains(name) ? 1 : 0;
    }

    int fault(int what) {
        return what == 0 ? fault : what == 1 ? place : NONE;
    }

    // ---- changes

    int terms(int what, int v) {
        int[][] bounds = {{20, 250}, {8, 64}, {0, 1}, {0, 1}, {0, 1}, {25, 400}, {0, 1}};
        if (what < 0 || what > 6) {
            return -2;
        }
        if (v < bounds[what][0] || v > bounds[what][1] || what == 1 && !List.of(8, 16, 32, 64).contains(v)) {
            return -3;
        }
        int was = terms[what];
        terms[what] = v;
        return was;
    }

    private boolean no(int note) {
        return note < 0 || note >= notes.size();
    }

    private boolean noPlayed(int note) {
        return no(note) || notes.get(note).rest();
    }

    int body(int note, int kind) {
        if (noPlayed(note)) {
            return -2;
        }
        if (kind < 0 || kind > 8) {
            return -3;
        }
        int was = BODIES.indexOf(notes.get(note).body);
        notes.get(note).setBody(BODIES.get(kind));
        return was;
    }

    int sign(int note, int up, int sign) {
        if (noPlayed(note)) {
            return -2;
        }
        if (up < 0 || up > 1 || sign < -1 || sign > 2) {
            return -3;
        }
        N n = notes.get(note);
        if (n.body.isEmpty()) {
            return -5;
        }
        int was = up == 1 ? n.up : n.down;
        n.up = up == 1 ? sign : n.up;
        n.down = up == 0 ? sign : n.down;
        return was;
    }

    int bare(int note) {
        if (noPlayed(note)) {
            return -2;
        }
        N n = notes.get(note);
        int was = n.prefix.equals("sl") ? 2 : n.graces.size();
        n.prefix = "";
        n.graces = new ArrayList<>();
        return was;
    }

    int after(int note, int is) {
        if (noPlayed(note)) {
            return -2;
        }
        if (is < 0 || is > 2) {
            return -3;
        }
        N n = notes.get(note);
        if (is == 1 && !n.body.equals("tr") && !n.body.equals("dc")) {
            return -5;
        }
        List<String> names = List.of("", "nb", "an");
        int was = names.indexOf(n.behind);
        n.behind = names.get(is);
        return was;
    }

    // ---- writing out

    private boolean quick(Frac x, int speed, int percent) {
        return x.up * 240000 * 100 < (long) terms[0] * speed * percent * x.low;
    }

    private Frac toneOf(N n, int percent) {
        Frac t = Frac.of(1, terms[1]);
        while (quick(t, n.speed, percent)) {
            t = t.times(2);
        }
        return t;
    }

    private int held(int letter, int octave, N n) {
        int found = 2;
        for (int i = 0; i < n.pOrder; i++) {
            P p = told.get(i);
            if (terms[3] == 1 && p.bar == n.bar && p.letter == letter && p.octave == octave && p.sign != 2) {
                found = p.sign;
            }
        }
        return found;
    }

    private Pitch next(int letter, int octave, int by, N n, int sign, int key) {
        int l = letter + by;
        int o = octave;
        if (l > 6) {
            l = 0;
            o++;
        } else if (l < 0) {
            l = 6;
            o--;
        }
        int s = sign != 2 ? sign : held(l, o, n);
        if (s == 2) {
            s = keySign(l, key);
        }
        return new Pitch(l, o, 12 * (o + 1) + NATURAL[l] + s);
    }

    private Pitch upper(N n, int key) {
        Pitch p = next(n.p.letter, n.p.octave, 1, n, n.up, key);
        return p.number > n.p.number ? p : new Pitch(p.letter, p.octave, n.p.number + 1);
    }

    private Pitch lower(N n, int key) {
        Pitch p = next(n.p.letter, n.p.octave, -1, n, n.down, key);
        return p.number < n.p.number ? p : new Pitch(p.letter, p.octave, n.p.number - 1);
    }

    private Pitch low(N n) {
        Pitch l = lower(n, n.key);
        Pitch p = next(l.letter, l.octave, -1, n, 2, n.key);
        return p.number < l.number ? p : new Pitch(p.letter, p.octave, l.number - 1);
    }

    private static Pitch pitch(P p) {
        return new Pitch(p.letter, p.octave, p.number);
    }

    private Out out() {
        return new Writing(terms[5]).all();
    }

    private final class Writing {
        final Out out = new Out();
        final int percent;
        N n;
        int at;
        Frac t;
        Frac r;
        Frac now;
        int nb;

        Writing(int percent) {
            this.percent = percent;
        }

        Out all() {
            for (at = 0; at < notes.size(); at++) {
                n = notes.get(at);
                out.verdicts.add(new int[3]);
                out.own.add(ZERO);
                out.ahead.add(ZERO);
                if (!n.rest()) {
                    one();
                }
            }
            return out;
        }

        Tone latest() {
            return out.tones.isEmpty() ? null : out.tones.get(out.tones.size() - 1);
        }

        /** LAST: below 0, if there is none. */
        int last() {
            Tone l = latest();
            return l != null && l.begin.plus(l.length).equals(now) ? l.pitch.number : -1;
        }

        void add(int kind, Pitch pitch, Frac length) {
            Tone tone = new Tone();
            tone.kind = kind;
            tone.pitch = pitch;
            tone.length = length;
            tone.note = at;
            tone.begin = now;
            now = now.plus(length);
            out.tones.add(tone);
        }

        void one() {
            int[] v = out.verdicts.get(at);
            now = n.begin;
            t = toneOf(n, percent);
            r = n.length;
            nb = 0;
            v[0] = prefix();
            out.own.set(at, n.length.less(r));
            v[1] = n.body.isEmpty() ? 0 : body(n.body);
            if (v[1] == 0 || v[1] == 3) {
                add(0, pitch(n.p), r);
            }
            v[2] = n.behind.equals("nb") ? nb : n.behind.equals("an") ? an() : 0;
        }

        N nextNote() {
            return at + 1 < notes.size() && !notes.get(at + 1).rest() ? notes.get(at + 1) : null;
        }

        int an() {
            N next = nextNote();
            if (next == null || !t.times(2).within(latest().length)) {
                return 3;
            }
            latest().length = latest().length.less(t);
            now = now.less(t);
            add(5, pitch(next.p), t);
            return 1;
        }

        int prefix() {
            Frac half = n.length.by(2);
            switch (n.prefix) {
                case "gr":
                    return graces(half);
                case "ap":
                    Frac x = n.length.up == 3 ? n.length.times(2).by(3) : half;
                    if (quick(x, n.speed, percent)) {
                        return 3;
                    }
                    add(3, pitch(n.graces.get(0)), x);
                    r = r.less(x);
                    return 1;
                case "sl":
                    boolean two = t.times(2).within(half);
                    if (!t.within(half)) {
                        return 3;
                    }
                    if (two) {
                        add(4, low(n), t);
                    }
                    add(2, lower(n, n.key), t);
                    r = r.less(two ? t.times(2) : t);
                    return two ? 1 : 2;
                default:
                    return 0;
            }
        }

        int graces(Frac half) {
            int m = n.graces.size();
            if (terms[2] == 1 && last() >= 0 && t.times(m).within(latest().length.by(2))) {
                latest().length = latest().length.less(t.times(m));
                now = now.less(t.times(m));
                for (P p : n.graces) {
                    add(3, pitch(p), t);
                }
                out.ahead.set(at, t.times(m));
                return 1;
            }
            List<P> left = new ArrayList<>(n.graces);
            while (!left.isEmpty() && !t.times(left.size()).within(half)) {
                left.remove(0);
            }
            for (P p : left) {
                add(3, pitch(p), t);
            }
            r = r.less(t.times(left.size()));
            return left.size() == m ? 1 : left.isEmpty() ? 3 : 2;
        }

        /** Plays what the letters p, u, l say, each so long, the last one as long as is left of a time. */
        boolean shape(String kinds, Frac each, Frac in) {
            if (!each.times(kinds.length()).within(in)) {
                return false;
            }
            for (int i = 0; i < kinds.length(); i++) {
                char c = kinds.charAt(i);
                Pitch p = c == 'p' ? pitch(n.p) : c == 'u' ? upper(n, n.key) : lower(n, n.key);
                Frac length = i == kinds.length() - 1 ? in.less(each.times(kinds.length() - 1)) : each;
                add("pul".indexOf(c), p, length);
            }
            return true;
        }

        boolean behindUpper() {
            return last() == upper(n, n.key).number || terms[6] == 1;
        }

        int body(String kind) {
            switch (kind) {
                case "mo":
                    return shape("plp", t, r) ? 1 : 3;
                case "lm":
                    return shape("plplp", t, r) ? 1 : shape("plp", t, r) ? 2 : 3;
                case "pr":
                    if (behindUpper()) {
                        return shape("pup", t, r) ? 1 : 3;
                    }
                    return shape("upup", t, r) ? 1 : shape("pup", t, r) ? 2 : 3;
                case "tu":
                    return turn("uplp") ? 1 : 3;
                case "it":
                    return turn("lpup") ? 1 : 3;
                case "dt":
                    if (quick(r.by(8), n.speed, percent)) {
                        return turn("uplp") ? 2 : 3;
                    }
                    add(0, pitch(n.p), r.by(2));
                    shape("uplp", r.by(8), r.by(2));
                    return 1;
                case "tr":
                    return trill(r);
                default:
                    return cadence();
            }
        }

        boolean turn(String kinds) {
            return shape(kinds, t, r) || !quick(r.by(4), n.speed, percent) && shape(kinds, r.by(4), r);
        }

        /** The longest row of turns that fits, "" if none does. */
        String turns(Frac in, boolean fromPrincipal) {
            String row = fromPrincipal ? "pup" : "upup";
            if (!t.times(row.length()).within(in)) {
                return "";
            }
            while (row.length() + 2 <= 64 && t.times(row.length() + 2).within(in)) {
                row = row + "up";
            }
            return row;
        }

        boolean afterbeat() {
            N next = nextNote();
            return n.behind.equals("nb") || terms[4] == 1 && next != null && next.p.number == upper(n, n.key).number;
        }

        int trill(Frac in) {
            boolean behind = behindUpper();
            nb = 3;
            Frac less = in.less(t.times(2));
            if (afterbeat() && !turns(less, behind).isEmpty()) {
                shape(turns(less, behind), t, less);
                add(2, lower(n, n.key), t);
                add(0, pitch(n.p), t);
                nb = 1;
                return 1;
            }
            if (!turns(in, behind).isEmpty()) {
                shape(turns(in, behind), t, in);
                return 1;
            }
            return body("pr") == 3 ? 3 : 2;
        }

        int cadence() {
            Frac less = r.less(t.times(2));
            if (!turns(less, terms[6] == 1).isEmpty()) {
                add(2, lower(n, n.key), t);
                add(0, pitch(n.p), t);
                return trill(less);
            }
            return trill(r) == 3 ? 3 : 2;
        }
    }

    // ---- notes

    int note(int note, int what) {
        if (no(note)) {
            return -2;
        }
        N n = notes.get(note);
        switch (what) {
            case 0: return n.rest() ? NONE : n.p.number;
            case 1: return n.bar;
            case 2: return BODIES.indexOf(n.body);
            case 3: return n.prefix.equals("sl") ? 6 : n.prefix.equals("ap") ? 5 : n.graces.size();
            case 4: return List.of("", "nb", "an").indexOf(n.behind);
            case 5: return n.ties;
            case 6: return n.key;
            case 7: return n.speed;
            case 8: return n.rest() ? NONE : upper(n, n.key).number;
            case 9: return n.rest() ? NONE : lower(n, n.key).number;
            case 10: return n.rest() ? NONE : low(n).number;
            case 11: return out().verdicts.get(note)[0];
            case 12: return out().verdicts.get(note)[1];
            case 13: return out().verdicts.get(note)[2];
            case 14: return firstTone(note);
            case 15: return out().tonesOf(note);
            default: return -100;
        }
    }

    private int firstTone(int note) {
        List<Tone> tones = out().tones;
        for (int k = 0; k < tones.size(); k++) {
            if (tones.get(k).note == note) {
                return k;
            }
        }
        return NONE;
    }

    private static long part(Frac x, int what) {
        return what == 0 ? x.up : what == 1 ? x.low : -2;
    }

    long begin(int note, int what) {
        return no(note) ? -2 : part(notes.get(note).begin, what);
    }

    long length(int note, int what) {
        return no(note) ? -2 : part(notes.get(note).length, what);
    }

    long borrowed(int note, int from, int what) {
        if (no(note) || from < 0 || from > 2) {
            return -2;
        }
        Out o = out();
        if (from == 0) {
            return part(o.own.get(note), what);
        }
        if (from == 1) {
            return part(o.ahead.get(note), what);
        }
        return part(note + 1 < notes.size() ? o.ahead.get(note + 1) : ZERO, what);
    }

    long tone(int note, int what) {
        return no(note) ? -2 : part(toneOf(notes.get(note), terms[5]), what);
    }

    int milliseconds(int note) {
        if (no(note)) {
            return -2;
        }
        N n = notes.get(note);
        return (int) (n.length.up * 24000000L / (n.length.low * n.speed * terms[5]));
    }

    // ---- tones

    private static int above(Pitch p) {
        return p.number - 12 * (p.octave + 1) - NATURAL[p.letter];
    }

    private int barOf(Frac time) {
        int found = -1;
        for (Frac b : bars) {
            found += b.within(time) ? 1 : 0;
        }
        return found;
    }

    int sounds(int k, int what) {
        List<Tone> tones = out().tones;
        if (k < 0 || k >= tones.size()) {
            return -100;
        }
        Tone x = tones.get(k);
        switch (what) {
            case 0: return x.pitch.number;
            case 1: return x.kind;
            case 2: return x.note;
            case 3: return x.pitch.letter;
            case 4: return x.pitch.octave;
            case 5: return above(x.pitch);
            case 6: return barOf(x.begin);
            default: return -100;
        }
    }

    long when(int k, int which, int what) {
        List<Tone> tones = out().tones;
        if (k < 0 || k >= tones.size() || which < 0 || which > 1) {
            return -2;
        }
        return part(which == 0 ? tones.get(k).begin : tones.get(k).length, what);
    }

    int called(int k, int i) {
        List<Tone> tones = out().tones;
        if (k < 0 || k >= tones.size()) {
            return -2;
        }
        if (i < 0) {
            return -3;
        }
        Tone x = tones.get(k);
        int above = above(x.pitch);
        String name = LETTERS.charAt(x.pitch.letter) + (above > 0 ? "+" : "-").repeat(Math.abs(above))
            + x.pitch.octave + " " + x.length.up + "/" + x.length.low;
        return i < name.length() ? name.charAt(i) : NONE;
    }

    int at(int upper, int lower) {
        if (upper < 0 || lower < 1 || lower > 10000) {
            return -3;
        }
        List<Tone> tones = out().tones;
        Frac moment = Frac.of(upper, lower);
        for (int k = 0; k < tones.size(); k++) {
            Tone x = tones.get(k);
            if (x.begin.within(moment) && !x.begin.plus(x.length).within(moment)) {
                return k;
            }
        }
        return NONE;
    }

    long bar(int k, int what) {
        if (k < 0 || k >= bars.size() || what < 0 || what > 5) {
            return -2;
        }
        Frac barEnd = k + 1 < bars.size() ? bars.get(k + 1) : end;
        Frac sum = ZERO;
        int tones = 0;
        for (Tone x : out().tones) {
            tones += barOf(x.begin) == k ? 1 : 0;
            Frac from = x.begin.within(bars.get(k)) ? bars.get(k) : x.begin;
            Frac to = x.begin.plus(x.length).within(barEnd) ? x.begin.plus(x.length) : barEnd;
            sum = from.within(to) ? sum.plus(to.less(from)) : sum;
        }
        int many = 0;
        for (N n : notes) {
            many += n.bar == k ? 1 : 0;
        }
        if (what < 2) {
            return what == 0 ? tones : many;
        }
        return part(what < 4 ? barEnd.less(bars.get(k)) : sum, what % 2);
    }

    // ---- on paper

    int inKey(int note, int up, int key) {
        if (noPlayed(note)) {
            return -2;
        }
        if (up < 0 || up > 1 || key < -7 || key > 7) {
            return -3;
        }
        return up == 1 ? upper(notes.get(note), key).number : lower(notes.get(note), key).number;
    }

    int would(int percent, int what) {
        if (what < 0 || what > 2) {
            return -2;
        }
        if (percent < 25 || percent > 400) {
            return -3;
        }
        Out o = new Writing(percent).all();
        return what == 0 ? o.tones.size() : o.verdictsOf(what + 1);
    }

    int fastest() {
        for (int percent = 400; percent >= 25; percent--) {
            Out o = new Writing(percent).all();
            if (o.verdictsOf(2) + o.verdictsOf(3) == 0) {
                return percent;
            }
        }
        return NONE;
    }

    int bears(int note) {
        if (no(note)) {
            return -2;
        }
        for (int percent = 400; percent >= 25; percent--) {
            int[] v = new Writing(percent).all().verdicts.get(note);
            if (v[0] < 2 && v[1] < 2 && v[2] < 2) {
                return percent;
            }
        }
        return NONE;
    }

    private Out otherBody(int note, int kind) {
        N n = notes.get(note);
        String body = n.body;
        int up = n.up;
        int down = n.down;
        String behind = n.behind;
        n.setBody(BODIES.get(kind));
        Out o = out();
        n.body = body;
        n.up = up;
        n.down = down;
        n.behind = behind;
        return o;
    }

    int instead(int note, int kind) {
        if (noPlayed(note)) {
            return -2;
        }
        return kind < 0 || kind > 8 ? -3 : otherBody(note, kind).tones.size();
    }

    int richest(int note) {
        if (noPlayed(note)) {
            return -2;
        }
        int best = 8;
        for (int kind = 8; kind >= 0; kind--) {
            if (otherBody(note, kind).tonesOf(note) >= otherBody(note, best).tonesOf(note)) {
                best = kind;
            }
        }
        return best;
    }

    int quick() {
        int many = 0;
        for (Tone x : out().tones) {
            many += quick(x.length, notes.get(x.note).speed, terms[5]) ? 1 : 0;
        }
        return many;
    }

    int greediest() {
        Out o = out();
        int best = NONE;
        Frac most = ZERO;
        for (int i = 0; i < notes.size(); i++) {
            Frac taken = o.own.get(i).plus(o.ahead.get(i));
            if (taken.to(most) > 0) {
                most = taken;
                best = i;
            }
        }
        return best;
    }

    long count(int what) {
        switch (what) {
            case 0: return notes.size();
            case 1: return out().tones.size();
            case 2: return bars.size();
            case 3: return tape.size();
            case 4: return out().verdictsOf(2);
            case 5: return out().verdictsOf(3);
            case 6:
                int plain = 0;
                for (N n : notes) {
                    boolean has = n.rest() || !n.prefix.isEmpty() || !n.body.isEmpty() || n.behind.equals("an");
                    plain += has ? 0 : 1;
                }
                return plain;
            case 7: return end.up;
            case 8: return end.low;
            default: return what >= 10 && what <= 16 ? terms[what - 10] : NONE;
        }
    }
}
