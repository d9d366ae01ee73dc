import java.util.Random;

/** Any calls with any arguments: none throws, and a refused call changes nothing. */
public final class RobustTest {
    private static final int[] EDGES = {Integer.MIN_VALUE, Integer.MIN_VALUE + 1, -101, -8, -7, -3, -2, -1, 0, 1, 2, 3, 4, 5, 6, 7, 8, 9,
        10, 16, 17, 20, 24, 25, 47, 48, 49, 64, 100, 120, 250, 400, 401, 800, 801, 10000, 10001, 1 << 16, Integer.MAX_VALUE - 1,
        Integer.MAX_VALUE};

    private final Random random;
    private final OrnamentsOut x = new OrnamentsOut();
    private final StringBuilder history = new StringBuilder();

    private RobustTest(long seed) {
        random = new Random(seed);
    }

    private int any() {
        int kind = random.nextInt(10);
        if (kind < 6) {
            return EDGES[random.nextInt(EDGES.length)];
        }
        return kind < 9 ? random.nextInt(50) : random.nextInt();
    }

    private long call() {
        int which = random.nextInt(28);
        int a = any();
        int b = any();
        int c = any();
        history.append(which).append('(').append(a).append(',').append(b).append(',').append(c).append(") ");
        switch (which) {
            case 0: return x.feed(a, b, c, any(), any());
            case 1: return x.text(a);
            case 2: return x.fault(a);
            case 3: return x.terms(a, b);
            case 4: return x.body(a, b);
            case 5: return x.sign(a, b, c);
            case 6: return x.bare(a);
            case 7: return x.after(a, b);
            case 8: return x.note(a, b);
            case 9: return x.begin(a, b);
            case 10: return x.length(a, b);
            case 11: return x.borrowed(a, b, c);
            case 12: return x.tone(a, b);
            case 13: return x.milliseconds(a);
            case 14: return x.sounds(a, b);
            case 15: return x.when(a, b, c);
            case 16: return x.called(a, b);
            case 17: return x.at(a, b);
            case 18: return x.bar(a, b);
            case 19: return x.inKey(a, b, c);
            case 20: return x.would(a, b);
            case 21: return random.nextInt(8) == 0 ? x.fastest() : 0;
            case 22: return random.nextInt(8) == 0 ? x.bears(a) : 0;
            case 23: return x.instead(a, b);
            case 24: return x.richest(a);
            case 25: return x.quick();
            case 26: return x.greediest();
            default: return x.count(a);
        }
    }

    private void run() {
        try {
            for (int i = 0; i < 300; i++) {
                if (random.nextInt(30) == 0) {
                    Checks.text(x, new Texts(random).next());
                }
                call();
            }
            Checks.holds("no call throws", true);
        } catch (RuntimeException e) {
            System.out.println(history);
            e.printStackTrace(System.out);
            Checks.holds("no call throws", false);
        }
    }

    /** All that can be asked of an object that may have NOTES. */
    private static long state(OrnamentsOut x) {
        long sum = 0;
        for (int what = 0; what <= 16; what++) {
            sum = sum * 31 + x.count(what);
        }
        for (int note = 0; note < x.count(0); note++) {
            for (int what = 0; what <= 15; what++) {
                sum = sum * 31 + x.note(note, what);
            }
        }
        for (int k = 0; k < x.count(1); k++) {
            for (int what = 0; what <= 6; what++) {
                sum = sum * 31 + x.sounds(k, what);
            }
            sum = sum * 31 + x.when(k, 0, 0);
            sum = sum * 31 + x.when(k, 1, 1);
        }
        return sum;
    }

    private static void refusedCallsChangeNothing() {
        OrnamentsOut x = Checks.song("note c4 1/4 gr d4 tr up+ nb; rest 1/4; note d4 1/4 sl mo; note e4 1/4;");
        Checks.feed(x, "foo;");
        long was = state(x);
        Checks.due("terms", x.terms(1, 12), -3);
        Checks.due("terms", x.terms(7, 1), -2);
        Checks.due("body", x.body(0, 9), -3);
        Checks.due("body", x.body(1, 0), -2);
        Checks.due("sign", x.sign(0, 1, 3), -3);
        Checks.due("sign", x.sign(3, 1, 0), -5);
        Checks.due("bare", x.bare(4), -2);
        Checks.due("after", x.after(2, 1), -5);
        Checks.due("after", x.after(0, 3), -3);
        Checks.due("text", x.text(21), -3);
        Checks.due("text", x.text(-1), -3);
        x.fastest();
        x.bears(2);
        x.would(400, 0);
        x.instead(0, 5);
        x.richest(2);
        x.inKey(0, 1, 7);
        Checks.due("state is as it was", state(x), was);
        Checks.due("text", x.text(4), -31);
        x.feed(0, 0, 0, 0, 0);
        Checks.due("state is as it was behind a FAULT", state(x), was);
    }

    /** As many NOTES, TONES and BARS as a text can make. */
    private static void theMost() {
        StringBuilder notes = new StringBuilder("meter16/1;speed20;");
        for (int i = 0; i < 48; i++) {
            notes.append(i % 2 == 0 ? "note c4 8/1dc;" : "note d4 8/1dc;");
        }
        OrnamentsOut x = Checks.song(notes.toString());
        x.terms(1, 64);
        x.terms(4, 1);
        Checks.due("TONES", x.count(1), 24 * 68 + 24 * 66);
        Checks.due("the last one's NOTE", x.sounds(24 * 68 + 24 * 66 - 1, 2), 47);
        StringBuilder bars = new StringBuilder("meter1/8;note c4 1/8;");
        while (bars.length() + 7 <= 800) {
            bars.append("tie1/8;");
        }
        x = Checks.song(bars.toString());
        Checks.due("BARS", x.count(2), 112);
        Checks.due("BAR 111", x.bar(111, 3), 8);
        StringBuilder length = new StringBuilder("speed20;meter16/1;note c4 16/1;");
        while (length.length() + 8 <= 800) {
            length.append("tie16/1;");
        }
        x = Checks.song(length.toString());
        x.terms(5, 25);
        Checks.due("wholes", x.length(0, 0), 16 * 97);
        Checks.due("milliseconds", x.milliseconds(0), 16 * 97 * 48000);
        Checks.due("at its end", x.at(16 * 97 * 1000 - 1, 1000), 0);
        Checks.due("behind its end", x.at(16 * 97, 1), -1);
    }

    public static void main(String[] args) {
        int runs = args.length > 0 ? Integer.parseInt(args[0]) : 400;
        for (int seed = 1; seed <= runs; seed++) {
            new RobustTest(seed).run();
        }
        refusedCallsChangeNothing();
        theMost();
        Checks.end("RobustTest");
    }
}
