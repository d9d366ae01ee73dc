import java.util.ArrayList;
import java.util.List;
import java.util.function.Supplier;
import java.util.function.ToLongFunction;

/**
 * Asks whether two objects are alike in all that the face can tell; above all whether a call changed anything: of two that
 * were made alike one gets the call, then both are asked. No object is used for more calls than the document promises answers for.
 */
final class Snapshot {
    private static final int ASKED_OF_ONE = 300;

    private final Supplier<OrnamentsOut> made;
    private final List<ToLongFunction<OrnamentsOut>> questions = new ArrayList<>();
    private final List<ToLongFunction<OrnamentsOut>> changes = new ArrayList<>();

    Snapshot(Supplier<OrnamentsOut> made) {
        this.made = made;
        OrnamentsOut x = made.get();
        askOfAll();
        askOfNotes((int) x.count(0));
        askOfTones((int) x.count(1));
        askOfBars((int) x.count(2));
        askByChanges((int) x.count(0));
    }

    private void askOfAll() {
        for (int i = 0; i <= 16; i++) {
            int what = i;
            questions.add(x -> x.count(what));
        }
        questions.add(x -> x.fault(0));
        questions.add(x -> x.fault(1));
        questions.add(x -> x.would(200, 0));
        questions.add(x -> x.would(200, 1));
        questions.add(x -> x.would(200, 2));
        questions.add(OrnamentsOut::fastest);
        questions.add(OrnamentsOut::quick);
        questions.add(OrnamentsOut::greediest);
        questions.add(x -> x.at(3, 64));
    }

    private void askOfNotes(int notes) {
        for (int i = 0; i <= notes; i++) {
            int note = i;
            for (int j = 0; j <= 15; j++) {
                int what = j;
                questions.add(x -> x.note(note, what));
            }
            for (int j = 0; j <= 1; j++) {
                int what = j;
                questions.add(x -> x.begin(note, what));
                questions.add(x -> x.length(note, what));
                questions.add(x -> x.tone(note, what));
                questions.add(x -> x.borrowed(note, 0, what));
                questions.add(x -> x.borrowed(note, 1, what));
                questions.add(x -> x.borrowed(note, 2, what));
                questions.add(x -> x.inKey(note, what, 7));
                questions.add(x -> x.inKey(note, what, -7));
            }
            questions.add(x -> x.milliseconds(note));
            questions.add(x -> x.bears(note));
            questions.add(x -> x.instead(note, 8));
            questions.add(x -> x.richest(note));
        }
    }

    private void askOfTones(int tones) {
        for (int i = 0; i <= tones; i++) {
            int k = i;
            for (int j = 0; j <= 6; j++) {
                int what = j;
                questions.add(x -> x.sounds(k, what));
            }
            for (int j = 0; j <= 3; j++) {
                int one = j;
                questions.add(x -> x.when(k, one / 2, one % 2));
                questions.add(x -> x.called(k, one));
            }
        }
    }

    private void askOfBars(int bars) {
        for (int i = 0; i <= bars; i++) {
            int k = i;
            for (int j = 0; j <= 5; j++) {
                int what = j;
                questions.add(x -> x.bar(k, what));
            }
        }
    }

    /** What only a change tells: the SIGNS, how many P a PREFIX has, the bytes on THE TAPE. */
    private void askByChanges(int notes) {
        for (int i = 0; i <= notes; i++) {
            int note = i;
            changes.add(x -> x.sign(note, 0, 2));
            changes.add(x -> x.sign(note, 1, 2));
            changes.add(x -> x.after(note, 0));
            changes.add(x -> x.bare(note));
            changes.add(x -> x.body(note, 0));
        }
        changes.add(x -> x.text((int) x.count(3)));
        changes.add(x -> x.fault(0));
        changes.add(x -> x.fault(1));
        for (int i = 0; i < 6; i++) {
            int what = i;
            changes.add(x -> x.note(0, what));
            changes.add(x -> x.count(what));
        }
        changes.add(x -> x.feed(0, 0, 0, 0, 0));
    }

    /** The call must answer so, and change nothing. */
    void dueUnchanged(String told, ToLongFunction<OrnamentsOut> call, long want) {
        for (int from = 0; from < questions.size(); from += ASKED_OF_ONE) {
            compare(told, call, want, questions.subList(from, Math.min(from + ASKED_OF_ONE, questions.size())));
        }
        compare(told, call, want, changes);
    }

    /** An object that was made otherwise must tell the same. */
    void dueAlike(String told, Supplier<OrnamentsOut> other) {
        for (int from = 0; from < questions.size(); from += ASKED_OF_ONE) {
            List<ToLongFunction<OrnamentsOut>> asked = questions.subList(from, Math.min(from + ASKED_OF_ONE, questions.size()));
            Checks.holds(told, areAlike(made.get(), other.get(), asked));
        }
        Checks.holds(told, areAlike(made.get(), other.get(), changes));
    }

    private void compare(String told, ToLongFunction<OrnamentsOut> call, long want, List<ToLongFunction<OrnamentsOut>> asked) {
        OrnamentsOut without = made.get();
        OrnamentsOut with = made.get();
        Checks.due(told, call.applyAsLong(with), want);
        Checks.holds(told + " changes nothing", areAlike(without, with, asked));
    }

    private static boolean areAlike(OrnamentsOut one, OrnamentsOut other, List<ToLongFunction<OrnamentsOut>> asked) {
        boolean alike = true;
        for (ToLongFunction<OrnamentsOut> question : asked) {
            alike &= question.applyAsLong(one) == question.applyAsLong(other);
        }
        return alike;
    }
}
