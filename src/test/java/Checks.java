import java.nio.charset.StandardCharsets;

/** What the tests share: feeding a text, and telling every answer that is not the one due. */
final class Checks {
    private static int wrong = 0;
    private static int asked = 0;
    private static String about = "";

    private Checks() {
    }

    /** What the answers from here on are about; told with each that is wrong. */
    static void about(String what) {
        about = what + "\n    ";
    }

    static void due(String call, long got, long want) {
        asked++;
        if (got != want) {
            wrong++;
            System.out.println(about + call + " answered " + got + ", due is " + want);
        }
    }

    static void holds(String what, boolean is) {
        due(what, is ? 1 : 0, 1);
    }

    static void end(String test) {
        System.out.println(test + ": " + asked + " answers asked, " + wrong + " wrong");
        System.exit(wrong > 0 ? 1 : 0);
    }

    /** Feeds a text with zeros behind it up to a multiple of twenty; tells how many bytes are on THE TAPE. */
    static int feed(OrnamentsOut x, String text) {
        byte[] bytes = text.getBytes(StandardCharsets.ISO_8859_1);
        int taped = (int) x.count(3);
        for (int at = 0; at < bytes.length; at += 20) {
            int[] five = new int[5];
            for (int i = 0; i < 20; i++) {
                int one = at + i < bytes.length ? bytes[at + i] & 255 : 0;
                five[i / 4] = five[i / 4] << 8 | one;
            }
            taped = x.feed(five[0], five[1], five[2], five[3], five[4]);
        }
        return taped;
    }

    static int text(OrnamentsOut x, String text) {
        feed(x, text);
        return x.text(text.length());
    }

    /** A new object with a text that must have no FAULT. */
    static OrnamentsOut song(String text) {
        OrnamentsOut x = new OrnamentsOut();
        int notes = text(x, text);
        holds("text is taken: " + text, notes >= 0);
        return x;
    }

    static void dueFault(String text, int fault, int place) {
        OrnamentsOut x = new OrnamentsOut();
        due("text of '" + text + "'", text(x, text), -30 - fault);
        due("fault(0) of '" + text + "'", x.fault(0), fault);
        due("fault(1) of '" + text + "'", x.fault(1), place);
    }

    static void dueFraction(String call, long upper, long lower, long wantUpper, long wantLower) {
        due(call + " upper", upper, wantUpper);
        due(call + " lower", lower, wantLower);
    }

    static String called(OrnamentsOut x, int k) {
        StringBuilder name = new StringBuilder();
        for (int i = 0; i < 40; i++) {
            int one = x.called(k, i);
            if (one < 0) {
                break;
            }
            name.append((char) one);
        }
        return name.toString();
    }

    /** All TONES as they are called, with a comma between two. */
    static String tones(OrnamentsOut x) {
        StringBuilder all = new StringBuilder();
        for (int k = 0; k < x.count(1); k++) {
            all.append(k == 0 ? "" : ", ").append(called(x, k));
        }
        return all.toString();
    }

    static void dueTones(OrnamentsOut x, String want) {
        String got = tones(x);
        asked++;
        if (!got.equals(want)) {
            wrong++;
            System.out.println(about + "tones are " + got + "\n    due are " + want);
        }
    }

    static void dueVerdicts(OrnamentsOut x, int note, int prefix, int body, int behind) {
        due("note(" + note + ", 11)", x.note(note, 11), prefix);
        due("note(" + note + ", 12)", x.note(note, 12), body);
        due("note(" + note + ", 13)", x.note(note, 13), behind);
    }
}
