import java.util.Random;

/** Random texts: most of them without a FAULT, with what stands around each ornament as various as can be. */
final class Texts {
    private static final String[] BODIES = {"tr", "mo", "pr", "tu", "dt", "it", "lm", "dc"};
    private static final String[] SIGNS = {"+", "-", "="};
    private static final int[] LOWERS = {1, 2, 4, 8, 16, 32};

    private final Random random;
    /** The range of steps that P is taken from, small so that neighbours meet. */
    private int lowest;
    private int steps;

    Texts(Random random) {
        this.random = random;
    }

    private boolean chance(int percent) {
        return random.nextInt(100) < percent;
    }

    private String blank() {
        return chance(8) ? "  " : " ";
    }

    private String pitch() {
        int step = lowest + random.nextInt(steps);
        String sign = chance(30) ? SIGNS[random.nextInt(3)] : "";
        return "cdefgab".charAt(step % 7) + sign + step / 7;
    }

    private static int gcd(int a, int b) {
        return b == 0 ? a : gcd(b, a % b);
    }

    /** Some time, in 32nds, that is no more than there is. */
    private int time(int most) {
        int[] usual = {1, 2, 3, 4, 6, 8, 8, 12, 16, 24, 32, 48, 64};
        for (int tries = 0; tries < 8; tries++) {
            int x = chance(80) ? usual[random.nextInt(usual.length)] : 1 + random.nextInt(96);
            if (x <= most && told(x) != null) {
                return x;
            }
        }
        return 1;
    }

    private String told(int time) {
        int by = gcd(time, 32);
        int upper = time / by;
        int lower = 32 / by;
        return upper > 32 ? null : upper + "/" + lower;
    }

    private String ornaments() {
        StringBuilder s = new StringBuilder();
        int prefix = random.nextInt(10);
        if (prefix < 3) {
            s.append(" gr");
            for (int m = 1 + random.nextInt(4); m > 0; m--) {
                s.append(blank()).append(pitch());
            }
        } else if (prefix == 3) {
            s.append(" ap ").append(pitch());
        } else if (prefix == 4) {
            s.append(" sl");
        }
        String body = chance(70) ? BODIES[chance(30) ? 0 : random.nextInt(8)] : "";
        if (!body.isEmpty()) {
            s.append(" ").append(body);
            if (chance(20)) {
                s.append(" up").append(SIGNS[random.nextInt(3)]);
            }
            if (chance(20)) {
                s.append(" down ").append(SIGNS[random.nextInt(3)]);
            }
        }
        if (chance(25)) {
            boolean nb = (body.equals("tr") || body.equals("dc")) && chance(60);
            s.append(nb ? " nb" : " an");
        }
        return s.toString();
    }

    String next() {
        lowest = chance(10) ? 0 : chance(10) ? 55 : 20 + random.nextInt(10);
        steps = 2 + random.nextInt(7);
        StringBuilder s = new StringBuilder();
        int meter = 32;
        int left = 0;
        boolean note = false;
        int lines = random.nextInt(30);
        for (int i = 0; i < lines && s.length() < 740; i++) {
            if (chance(10)) {
                s.append("key ").append(chance(50) ? "-" : "").append(random.nextInt(8)).append(";");
            }
            if (chance(10)) {
                int speed = chance(50) ? 20 + random.nextInt(381) : 40 + random.nextInt(100);
                s.append("speed ").append(speed).append(";");
            }
            if (left == 0 && chance(20)) {
                int upper = 1 + random.nextInt(16);
                int lower = LOWERS[random.nextInt(5)];
                meter = upper * 32 / lower;
                s.append("meter ").append(upper).append("/").append(lower).append(";");
            }
            left = left == 0 ? meter : left;
            int time = time(left);
            left -= time;
            int kind = random.nextInt(10);
            if (kind == 0) {
                s.append("rest ").append(told(time)).append(";");
                note = false;
            } else if (kind == 1 && note) {
                s.append("tie ").append(told(time)).append(";");
            } else {
                s.append("note").append(blank()).append(pitch()).append(" ").append(told(time));
                s.append(ornaments()).append(";");
                note = true;
            }
        }
        String text = s.length() > 800 ? s.substring(0, 800) : s.toString();
        return chance(12) ? spoiled(text) : text;
    }

    /** The same with one byte, or some, changed. */
    private String spoiled(String text) {
        if (text.isEmpty()) {
            return ";";
        }
        StringBuilder s = new StringBuilder(text);
        String bytes = " ;/+-=0123456789abcdefghnotrup\u0000\u00ff";
        int at = random.nextInt(s.length());
        switch (random.nextInt(5)) {
            case 0:
                s.deleteCharAt(at);
                break;
            case 1:
                s.setCharAt(at, bytes.charAt(random.nextInt(bytes.length())));
                break;
            case 2:
                s.setLength(at);
                break;
            case 3:
                int end = s.indexOf(";", at);
                s.insert(end < 0 ? at : end, new String[] {" nb", " up+", " up-", " an", " tr", " c4", " 4"}[random.nextInt(7)]);
                break;
            default:
                s.insert(at, bytes.charAt(random.nextInt(bytes.length())));
                break;
        }
        return s.length() > 800 ? s.substring(0, 800) : s.toString();
    }
}
