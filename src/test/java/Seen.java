import java.util.ArrayList;
import java.util.List;

/** All that can be looked at of an object. */
final class Seen {
    private static final int CHANNELS = 6;

    private Seen() {
    }

    /** What belongs to the state: all but the text, the history and the slots. */
    static List<Integer> ofState(ShakerSweep object) {
        List<Integer> answers = new ArrayList<>();
        for (int property = 0; property < 20; property++) {
            boolean ofState = property != 12 && property != 13;
            answers.add(ofState ? object.total(property) : 0);
        }
        for (int frequency = 1; frequency <= 200; frequency++) {
            answers.add(object.target(frequency));
            for (int channel = 0; channel < CHANNELS; channel++) {
                answers.add(object.gain(channel, frequency));
                answers.add(object.limit(channel, frequency));
            }
        }
        for (int line = 0; line < 12; line++) {
            answers.add(object.frequency(line));
            answers.add(object.controlGain(line));
            answers.add(object.driveAt(line));
            answers.add(object.notchedBy(line));
            for (int channel = 0; channel < CHANNELS; channel++) {
                answers.add(object.level(line, channel));
                answers.add(object.averaged(line, channel));
            }
        }
        for (int channel = 0; channel < CHANNELS; channel++) {
            for (int property = 0; property < 8; property++) {
                answers.add(object.channel(channel, property));
            }
            answers.add(object.resonance(channel, 0));
            answers.add(object.highest(channel, 9));
        }
        answers.add(object.loopsLeft());
        answers.add(object.wouldAbort(99));
        return answers;
    }

    /** The state, what can be seen of the text, and the number of states in the history. */
    static List<Integer> ofObject(ShakerSweep object) {
        List<Integer> answers = ofState(object);
        answers.add(object.total(12));
        answers.add(object.total(13));
        answers.add(object.faultPosition());
        return answers;
    }
}
