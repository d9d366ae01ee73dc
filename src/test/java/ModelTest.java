import java.nio.charset.StandardCharsets;
import java.util.Random;

/** Random runs of calls on the class and on Model: all answers must be alike. */
public final class ModelTest {
    private final Random random;
    private final Texts texts;
    private OrnamentsOut x;
    private Model m;
    private final StringBuilder history = new StringBuilder();
    private static int shown = 0;

    private ModelTest(long seed) {
        random = new Random(seed);
        texts = new Texts(random);
    }

    private void same(String call, long got, long want) {
        if (got != want && shown < 5) {
            shown++;
            System.out.println("behind " + history);
        }
        Checks.due(call, got, want);
    }

    private void tell(String call) {
        history.append(call).append(' ');
    }

    private void feedAndTell(String text) {
        byte[] bytes = text.getBytes(StandardCharsets.ISO_8859_1);
        for (int at = 0; at < bytes.length; at += 20) {
            int[] five = new int[5];
            for (int i = 0; i < 20; i++) {
                five[i / 4] = five[i / 4] << 8 | (at + i < bytes.length ? bytes[at + i] & 255 : 0);
            }
            same("feed", x.feed(five[0], five[1], five[2], five[3], five[4]),
                m.feed(five[0], five[1], five[2], five[3], five[4]));
        }
        int n = random.nextInt(40) == 0 ? random.nextInt(850) - 20 : bytes.length;
        tell("text '" + text + "' " + n);
        same("text", x.text(n), m.text(n));
        for (int what = -1; what < 3; what++) {
            same("fault " + what, x.fault(what), m.fault(what));
        }
        if (random.nextInt(10) > 0) {
            same("text(0) again", x.count(3), m.count(3));
        }
    }

    private int someNote() {
        return random.nextInt((int) m.count(0) + 2) - (random.nextInt(10) == 0 ? 1 : 0);
    }

    private void change() {
        int note = someNote();
        int a = random.nextInt(12) - 2;
        int b = random.nextInt(6) - 2;
        switch (random.nextInt(6)) {
            case 0:
                int v = new int[] {20 + random.nextInt(231), 8 << random.nextInt(4), random.nextInt(2), random.nextInt(2),
                    random.nextInt(2), 25 + random.nextInt(376), random.nextInt(2), 19 + random.nextInt(400)}[random.nextInt(8)];
                tell("terms " + (a - 1) + " " + v);
                same("terms", x.terms(a - 1, v), m.terms(a - 1, v));
                break;
            case 1:
                tell("body " + note + " " + a);
                same("body", x.body(note, a), m.body(note, a));
                break;
            case 2:
                int up = random.nextInt(10) == 0 ? b : random.nextInt(2);
                tell("sign " + note + " " + up + " " + b);
                same("sign", x.sign(note, up, b), m.sign(note, up, b));
                break;
            case 3:
                tell("bare " + note);
                same("bare", x.bare(note), m.bare(note));
                break;
            default:
                tell("after " + note + " " + b);
                same("after", x.after(note, b), m.after(note, b));
                break;
        }
    }

    private void goodTerm() {
        int what = random.nextInt(7);
        int[] least = {20, 8, 0, 0, 0, 25, 0};
        int[] most = {250, 64, 1, 1, 1, 400, 1};
        int v = what == 1 ? 8 << random.nextInt(4) : least[what] + random.nextInt(most[what] - least[what] + 1);
        tell("terms " + what + " " + v);
        same("terms", x.terms(what, v), m.terms(what, v));
    }

    private void lookAll() {
        for (int what = -1; what <= 18; what++) {
            same("count " + what, x.count(what), m.count(what));
        }
        for (int note = -1; note <= m.count(0); note++) {
            for (int what = -1; what <= 16; what++) {
                same("note " + note + " " + what, x.note(note, what), m.note(note, what));
            }
            for (int what = -1; what <= 2; what++) {
                same("begin " + note, x.begin(note, what), m.begin(note, what));
                same("length " + note, x.length(note, what), m.length(note, what));
                same("tone " + note, x.tone(note, what), m.tone(note, what));
                for (int from = -1; from <= 3; from++) {
                    same("borrowed " + note + " " + from, x.borrowed(note, from, what), m.borrowed(note, from, what));
                }
            }
            same("milliseconds " + note, x.milliseconds(note), m.milliseconds(note));
        }
        for (int k = -1; k <= m.count(2); k++) {
            for (int what = -1; what <= 6; what++) {
                same("bar " + k + " " + what, x.bar(k, what), m.bar(k, what));
            }
        }
        same("quick", x.quick(), m.quick());
        same("greediest", x.greediest(), m.greediest());
    }

    private void lookTones() {
        int tones = (int) m.count(1);
        for (int tries = 0; tries < 12; tries++) {
            int k = random.nextInt(tones + 2) - (random.nextInt(10) == 0 ? 1 : 0);
            for (int what = -1; what <= 7; what++) {
                same("sounds " + k + " " + what, x.sounds(k, what), m.sounds(k, what));
            }
            for (int i = -1; i <= 12; i++) {
                same("called " + k + " " + i, x.called(k, i), m.called(k, i));
            }
            for (int which = -1; which <= 2; which++) {
                for (int what = -1; what <= 2; what++) {
                    same("when " + k, x.when(k, which, what), m.when(k, which, what));
                }
            }
            int lower = random.nextInt(4) == 0 ? random.nextInt(10003) - 1 : 1 << random.nextInt(10);
            int upper = random.nextInt(1 + Math.max(1, lower) * 3) - (random.nextInt(10) == 0 ? 1 : 0);
            same("at " + upper + " " + lower, x.at(upper, lower), m.at(upper, lower));
        }
    }

    private void lookOnPaper() {
        int note = someNote();
        for (int kind = -1; kind <= 9; kind++) {
            same("instead " + note + " " + kind, x.instead(note, kind), m.instead(note, kind));
        }
        same("richest " + note, x.richest(note), m.richest(note));
        for (int key = -8; key <= 8; key++) {
            for (int up = -1; up <= 2; up++) {
                same("inKey " + note + " " + up + " " + key, x.inKey(note, up, key), m.inKey(note, up, key));
            }
        }
        for (int what = -1; what <= 3; what++) {
            int percent = 20 + random.nextInt(386);
            same("would " + percent + " " + what, x.would(percent, what), m.would(percent, what));
        }
        if (random.nextInt(6) == 0) {
            same("fastest", x.fastest(), m.fastest());
            same("bears " + note, x.bears(note), m.bears(note));
        }
    }

    private void run() {
        x = new OrnamentsOut();
        m = new Model();
        for (int texts = 1 + random.nextInt(2); texts > 0; texts--) {
            feedAndTell(this.texts.next());
            for (int changes = random.nextInt(4); changes > 0; changes--) {
                goodTerm();
            }
            lookAll();
            lookTones();
            for (int changes = 1 + random.nextInt(6); changes > 0; changes--) {
                change();
                lookOnPaper();
            }
            lookAll();
            lookTones();
        }
    }

    public static void main(String[] args) {
        int runs = args.length > 0 ? Integer.parseInt(args[0]) : 300;
        int from = args.length > 1 ? Integer.parseInt(args[1]) : 1;
        for (int seed = from; seed < from + runs; seed++) {
            new ModelTest(seed).run();
        }
        Checks.end("ModelTest");
    }
}
