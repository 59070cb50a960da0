import java.util.Arrays;

/**
 * A controller for sine sweeps on a vibration shaker.
 *
 * <p>All rows that a call needs are made by the constructor and used again: no call makes an
 * object.
 *
 * <p>Errors are reported by negative constants. Where several can apply, the order of the return
 * line is the order of the checks. A call that reports an error changes nothing, but for the
 * reason where it reports REFUSED.
 */
public final class ShakerSweep {

    /** There is no such channel, mode, line, setting or slot. */
    public static final int BAD_INDEX = -1;

    /** Another argument is out of range. */
    public static final int BAD_VALUE = -2;

    /** The call is not possible now. */
    public static final int NOT_POSSIBLE = -3;

    /** There is no room. */
    public static final int FULL = -4;

    /** It is refused; the reason is told by total(11). */
    public static final int REFUSED = -5;

    /** There is no such thing; not an error. */
    public static final int NONE = -6;

    private static final int IDLE = 0;
    private static final int SWEEPING = 1;
    private static final int HOLDING = 2;
    private static final int ABORTING = 3;
    private static final int ABORTED = 4;
    private static final int DONE = 5;

    private static final int STRATEGY = 0;
    private static final int AVERAGING = 1;
    private static final int PATIENCE = 2;
    private static final int RISE = 3;
    private static final int RAMP = 4;
    private static final int SWEEPS = 5;

    private static final int SETTINGS = 6;
    private static final int[] SETTING_LEAST = {0, 1, 1, 1, 10, 1};
    private static final int[] SETTING_GREATEST = {2, 8, 5, 100, 90, 9};
    private static final int[] SETTING_AT_FIRST = {0, 1, 1, 25, 50, 1};

    private static final int MAXIMUM = 1;
    private static final int MINIMUM = 2;

    private static final int NOT_REFUSED = 0;
    private static final int DOES_NOT_REST = 1;
    private static final int NO_LINES = 2;
    private static final int NO_POINTS = 3;
    private static final int NO_CONTROL_CHANNEL = 4;

    private static final int MAX_LINES = 100;
    private static final int MAX_POINTS = 8;
    private static final int MAX_CHANNELS = 6;
    private static final int MODES = 3;
    private static final int MAX_NOTCHES = 4;
    private static final int MAX_TEXT = 80;
    private static final int MAX_HISTORY = 5;
    private static final int SLOTS = 2;

    private static final int MAX_FREQUENCY = 2000;
    private static final int MAX_LIMIT = 200000;
    private static final int MAX_DRIVE = 100000;
    private static final int MAX_START_DRIVE = 1000;
    private static final int MAX_STEP = 50;
    private static final int MAX_FORECAST = 300;
    private static final int MAX_LOOPS_LEFT = 500;

    private static final int CHANNEL_PROPERTIES = 8;
    private static final int HISTORY_TOTAL = 12;
    private static final int TEXT_TOTAL = 13;
    private static final int FIRST_SETTING_TOTAL = 14;

    private final State present = new State();
    private final State forecast = new State();
    private final History history = new History();
    private final State[] slots = new State[SLOTS];
    private final boolean[] slotFilled = new boolean[SLOTS];
    private final Text text = new Text();

    /** Creates a controller with everything as at first. */
    public ShakerSweep() {
        for (int slot = 0; slot < SLOTS; slot++) {
            slots[slot] = new State();
        }
    }

    // ---- lines, profile, channels, settings

    /**
     * Sets the lines; what is forgotten by starting is forgotten, and all averaged gains, too; the
     * state becomes idle. Recorded.
     *
     * @param low the lowest frequency, 5 to 1000
     * @param high the highest frequency, low to 2000
     * @param rate 10 to 1000
     * @return the number of lines; BAD_VALUE if an argument is out of range; NOT_POSSIBLE if the
     *     controller does not rest; FULL if there would be more than 100 lines
     */
    public int setLines(int low, int high, int rate) {
        history.note(present);
        return recorded(present.layLines(low, high, rate));
    }

    /**
     * Sets a point of the profile, in place of the one with this frequency if there is one.
     * Recorded.
     *
     * @param frequency 1 to 2000
     * @param level 1 to 50000
     * @return the number of points; BAD_VALUE if an argument is out of range; NOT_POSSIBLE if the
     *     controller does not rest; FULL if there are 8 points and none has this frequency
     */
    public int setPoint(int frequency, int level) {
        history.note(present);
        return recorded(present.putPoint(frequency, level));
    }

    /**
     * Adds a channel. Recorded.
     *
     * @param control whether it is a control channel, otherwise it is a monitor channel
     * @param gain its base gain, 0 to 5000
     * @param abort its abort limit, 1 to 200000
     * @return its number; BAD_VALUE if gain or abort is out of range; NOT_POSSIBLE if the
     *     controller does not rest; FULL if there are 6 channels
     */
    public int addChannel(boolean control, int gain, int abort) {
        history.note(present);
        return recorded(present.joinChannel(control, gain, abort));
    }

    /**
     * Sets a mode of a channel, in any state. Recorded.
     *
     * @param channel a channel
     * @param mode 0 to 2
     * @param centre 1 to 2000
     * @param width 1 to 500
     * @param peak 0 to 50000
     * @return the gain of the channel at the centre then; BAD_INDEX if there is no such channel or
     *     mode; BAD_VALUE if another argument is out of range
     */
    public int setMode(int channel, int mode, int centre, int width, int peak) {
        if (!present.hasChannel(channel)) {
            return BAD_INDEX;
        }
        history.note(present);
        return recorded(present.channels[channel].putMode(mode, centre, width, peak));
    }

    /**
     * Adds a notch to a channel, in any state. Recorded.
     *
     * @param channel a channel
     * @param from 1 to 2000
     * @param to from to 2000
     * @param limit 1 to 200000
     * @return the number of the notch; BAD_INDEX if there is no such channel; BAD_VALUE if another
     *     argument is out of range; FULL if the channel has 4 notches
     */
    public int addNotch(int channel, int from, int to, int limit) {
        if (!present.hasChannel(channel)) {
            return BAD_INDEX;
        }
        history.note(present);
        return recorded(present.channels[channel].putNotch(from, to, limit));
    }

    /**
     * Sets a setting, in any state. Recorded.
     *
     * @param setting 0 to 5
     * @param value a value of this setting
     * @return the value before; BAD_INDEX if there is no such setting; BAD_VALUE if value is out
     *     of its range
     */
    public int set(int setting, int value) {
        history.note(present);
        return recorded(present.changeSetting(setting, value));
    }

    // ---- running

    /**
     * Starts. Recorded.
     *
     * @param drive 1 to 1000
     * @return the number of lines; BAD_VALUE if drive is out of range; REFUSED for the reasons 1
     *     to 4
     */
    public int start(int drive) {
        history.note(present);
        return recorded(present.begin(drive));
    }

    /**
     * Does loops, one after the other, until the controller rests or as many are done. Recorded.
     *
     * @param loops 1 to 50
     * @return the number of loops that were done; BAD_VALUE if loops is out of range; NOT_POSSIBLE
     *     if the controller rests
     */
    public int step(int loops) {
        history.note(present);
        return recorded(present.doLoops(loops));
    }

    /**
     * Holds the sweep at its line (the state becomes holding), or lets it go on (the state becomes
     * sweeping). Recorded.
     *
     * @param on whether it is held
     * @return the line; NOT_POSSIBLE if the state is not sweeping (with on), or not holding
     *     (without)
     */
    public int hold(boolean on) {
        history.note(present);
        return recorded(present.holdOrGoOn(on));
    }

    /**
     * Aborts by hand: the state becomes aborting; the line is kept as that of the abort, without a
     * channel. Recorded.
     *
     * @return the line; NOT_POSSIBLE if the controller rests or is aborting
     */
    public int abort() {
        history.note(present);
        return recorded(present.abortByHand());
    }

    // ---- the text

    /**
     * Appends a byte to the text.
     *
     * @param b 32 to 126
     * @return the length of the text then; BAD_VALUE if b is out of range; FULL if the text has 80
     *     bytes
     */
    public int append(int b) {
        return text.add(b);
    }

    /**
     * Empties the text.
     *
     * @return the length that it had
     */
    public int clearText() {
        int before = text.length;
        text.length = 0;
        return before;
    }

    /**
     * Returns the fault position of the text.
     *
     * @return the fault position; NONE if it has no fault
     */
    public int faultPosition() {
        return text.findFault();
    }

    /**
     * Carries out the acts of the text in their order, each as by start, step, hold, abort or set
     * (but not recorded by itself), until one of them reports an error (REFUSED, too, which sets
     * the reason); the text stays. Recorded, as one call.
     *
     * @return the number of acts that were carried out without an error; NOT_POSSIBLE if the text
     *     has a fault
     */
    public int run() {
        if (text.findFault() != NONE) {
            return NOT_POSSIBLE;
        }
        history.note(present);
        text.rewind();
        int done = 0;
        while (done < MAX_TEXT && text.readAct() && carryOutAct() >= 0) {
            done++;
        }
        return recorded(done);
    }

    private int carryOutAct() {
        switch (text.act) {
            case 'g':
                return present.begin(text.first);
            case 's':
                return present.doLoops(text.first);
            case 'h':
                return present.holdOrGoOn(true);
            case 'r':
                return present.holdOrGoOn(false);
            case 'x':
                return present.abortByHand();
            default:
                return present.changeSetting(text.first, text.second);
        }
    }

    // ---- history and slots

    /**
     * Removes the latest state from the history and makes it the present one.
     *
     * @return the number of states that are left in the history; NOT_POSSIBLE if there is none
     */
    public int undo() {
        return history.takeBack(present);
    }

    /**
     * Keeps a copy of the present state in a slot, in place of what it holds. Not recorded.
     *
     * @param slot 0 or 1
     * @return the state of the controller, 0 to 5; BAD_INDEX if there is no such slot
     */
    public int save(int slot) {
        if (!isSlot(slot)) {
            return BAD_INDEX;
        }
        slots[slot].copyFrom(present);
        slotFilled[slot] = true;
        return present.phase;
    }

    /**
     * Makes a copy of the state that a slot holds the present one. Recorded.
     *
     * @param slot 0 or 1
     * @return the state of the controller then, 0 to 5; BAD_INDEX if there is no such slot;
     *     NOT_POSSIBLE if it is empty
     */
    public int restore(int slot) {
        if (!isSlot(slot)) {
            return BAD_INDEX;
        }
        if (!slotFilled[slot]) {
            return NOT_POSSIBLE;
        }
        history.note(present);
        present.copyFrom(slots[slot]);
        return recorded(present.phase);
    }

    private static boolean isSlot(int slot) {
        return isWithin(slot, 0, SLOTS - 1);
    }

    /** Keeps the state noted ahead of a call in the history, unless the call reports an error. */
    private int recorded(int answer) {
        if (answer >= 0) {
            history.keepNoted();
        }
        return answer;
    }

    // ---- looking

    /**
     * Returns the frequency of a line.
     *
     * @param line a line
     * @return the frequency; BAD_INDEX if there is no such line
     */
    public int frequency(int line) {
        return lookAtLine(present.lines.frequencies, line);
    }

    /**
     * Returns the target at a frequency.
     *
     * @param frequency 1 to 2000
     * @return the target; BAD_VALUE if frequency is out of range; NONE if the profile has no
     *     points
     */
    public int target(int frequency) {
        if (!isFrequency(frequency)) {
            return BAD_VALUE;
        }
        return present.profile.targetAt(frequency);
    }

    /**
     * Returns the gain of a channel at a frequency.
     *
     * @param channel a channel
     * @param frequency 1 to 2000
     * @return the gain; BAD_INDEX if there is no such channel; BAD_VALUE if frequency is out of
     *     range
     */
    public int gain(int channel, int frequency) {
        if (!present.hasChannel(channel)) {
            return BAD_INDEX;
        }
        if (!isFrequency(frequency)) {
            return BAD_VALUE;
        }
        return present.channels[channel].gainAt(frequency);
    }

    /**
     * Returns the notch limit of a channel at a frequency.
     *
     * @param channel a channel
     * @param frequency 1 to 2000
     * @return the limit; BAD_INDEX if there is no such channel; BAD_VALUE if frequency is out of
     *     range; NONE if the channel has none there
     */
    public int limit(int channel, int frequency) {
        if (!present.hasChannel(channel)) {
            return BAD_INDEX;
        }
        if (!isFrequency(frequency)) {
            return BAD_VALUE;
        }
        return present.channels[channel].limitAt(frequency);
    }

    /**
     * Returns a property of a channel.
     *
     * @param channel a channel
     * @param property 0 1 for a control channel and 0 for a monitor channel, 1 its base gain, 2 its
     *     abort limit, 3 the number of its notches, 4 for how many loops it has been above its
     *     notch limit by now, 5 the greatest number of loops, one after the other, for which it was
     *     above its notch limit since the start, 6 its greatest excess since the start (0 if it had
     *     none), 7 for how many loops its level has been greater than its abort limit by now
     * @return the property (4 to 7 are 0 ahead of any start); BAD_INDEX if there is no such
     *     channel; BAD_VALUE if property is out of range
     */
    public int channel(int channel, int property) {
        if (!present.hasChannel(channel)) {
            return BAD_INDEX;
        }
        if (!isWithin(property, 0, CHANNEL_PROPERTIES - 1)) {
            return BAD_VALUE;
        }
        return present.channels[channel].propertyOf(property);
    }

    /**
     * Returns the level of a channel in the latest loop at a line since the start.
     *
     * @param line a line
     * @param channel a channel
     * @return the level; BAD_INDEX if there is no such line or channel; NONE if there was no such
     *     loop
     */
    public int level(int line, int channel) {
        if (!present.hasChannel(channel)) {
            return BAD_INDEX;
        }
        return lookAtLine(present.channels[channel].levels, line);
    }

    /**
     * Returns the averaged gain of a channel at a line.
     *
     * @param line a line
     * @param channel a channel
     * @return the averaged gain; BAD_INDEX if there is no such line or channel; NONE if there is
     *     none yet
     */
    public int averaged(int line, int channel) {
        if (!present.hasChannel(channel)) {
            return BAD_INDEX;
        }
        return lookAtLine(present.channels[channel].averagedGains, line);
    }

    /**
     * Returns the averaged control gain at a line.
     *
     * @param line a line
     * @return the averaged control gain; BAD_INDEX if there is no such line; NONE if there is none
     *     yet
     */
    public int controlGain(int line) {
        return lookAtLine(present.controlGains, line);
    }

    /**
     * Returns the drive that was found last for a line as the next line since the start (for line
     * 0, ahead of that, the drive with which it was started).
     *
     * @param line a line
     * @return the drive; BAD_INDEX if there is no such line; NONE if there is none
     */
    public int driveAt(int line) {
        return lookAtLine(present.drives, line);
    }

    /**
     * Returns the channel by which a line was notched when it was the next line last since the
     * start.
     *
     * @param line a line
     * @return the channel; BAD_INDEX if there is no such line; NONE if it was not, or if it was
     *     notched by none
     */
    public int notchedBy(int line) {
        return lookAtLine(present.notchers, line);
    }

    /**
     * Returns a line that is a resonance of a channel: a line with an averaged gain of the channel
     * that is greater than those of the lines next to it (a line that there is not, or that has
     * none, counts as lower). The one with the greater averaged gain comes first, of equal ones the
     * one with the smaller number.
     *
     * @param channel a channel
     * @param place 0 for the first one
     * @return the line; BAD_INDEX if there is no such channel; BAD_VALUE if place is below 0; NONE
     *     if there are fewer resonances
     */
    public int resonance(int channel, int place) {
        if (!present.hasChannel(channel)) {
            return BAD_INDEX;
        }
        if (place < 0) {
            return BAD_VALUE;
        }
        return present.channels[channel].resonanceAt(place, present.lines.count);
    }

    /**
     * Returns a number.
     *
     * @param property 0 the state, 1 the line (NONE if the state is idle), 2 the drive, 3 the
     *     number of lines, 4 of points, 5 of channels, 6 of finished sweeps since the start, 7 the
     *     direction (1 upwards, 0 downwards; 1 ahead of any start), 8 the number of loops since the
     *     start (those in the state aborting, too), 9 the channel of the abort (NONE without), 10
     *     the line of the abort (NONE without), 11 the reason, 12 the number of states in the
     *     history, 13 the length of the text, 14 to 19 the settings 0 to 5
     * @return the number; BAD_VALUE if property is out of range
     */
    public int total(int property) {
        if (!isWithin(property, 0, FIRST_SETTING_TOTAL + SETTINGS - 1)) {
            return BAD_VALUE;
        }
        if (property >= FIRST_SETTING_TOTAL) {
            return present.settings[property - FIRST_SETTING_TOTAL];
        }
        if (property == HISTORY_TOTAL) {
            return history.count;
        }
        if (property == TEXT_TOTAL) {
            return text.length;
        }
        return present.totalOf(property);
    }

    private int lookAtLine(int[] row, int line) {
        return present.hasLine(line) ? row[line] : BAD_INDEX;
    }

    // ---- forecasts, which change nothing

    /**
     * Tells how many loops there would be until the controller rests, if only loops are done.
     *
     * @return the number, 0 if it rests now; NONE if it would not rest within 500 loops
     */
    public int loopsLeft() {
        forecast.copyFrom(present);
        int done = 0;
        while (done < MAX_LOOPS_LEFT && !forecast.rests()) {
            forecast.doLoop();
            done++;
        }
        return forecast.rests() ? done : NONE;
    }

    /**
     * Tells the channel by which the controller would abort, if only loops are done.
     *
     * @param loops 1 to 300
     * @return the channel; BAD_VALUE if loops is out of range; NONE if it would not abort by a
     *     channel within so many loops (or rests or is aborting now)
     */
    public int wouldAbort(int loops) {
        if (!isWithin(loops, 1, MAX_FORECAST)) {
            return BAD_VALUE;
        }
        if (!present.measures()) {
            return NONE;
        }
        forecast.copyFrom(present);
        for (int done = 0; done < loops && forecast.measures(); done++) {
            forecast.doLoop();
        }
        return forecast.abortChannel;
    }

    /**
     * Tells the greatest level that a channel would have, if only loops are done.
     *
     * @param channel a channel
     * @param loops 1 to 300
     * @return the level; BAD_INDEX if there is no such channel; BAD_VALUE if loops is out of
     *     range; NONE if its level would not be found in any of these loops
     */
    public int highest(int channel, int loops) {
        if (!present.hasChannel(channel)) {
            return BAD_INDEX;
        }
        if (!isWithin(loops, 1, MAX_FORECAST)) {
            return BAD_VALUE;
        }
        forecast.copyFrom(present);
        int greatest = NONE;
        for (int done = 0; done < loops && forecast.measures(); done++) {
            forecast.doLoop();
            greatest = Math.max(greatest, forecast.channels[channel].latestLevel);
        }
        return greatest;
    }

    // ---- what the parts share

    private static boolean isWithin(int value, int least, int greatest) {
        return value >= least && value <= greatest;
    }

    private static boolean isFrequency(int value) {
        return isWithin(value, 1, MAX_FREQUENCY);
    }

    private static void copyRow(int[] from, int[] to) {
        System.arraycopy(from, 0, to, 0, Math.min(from.length, to.length));
    }

    private static int measuredGain(int level, int drive) {
        return drive > 0 ? (int) (level * 1000L / drive) : 0;
    }

    private static int averagedGain(int old, int measured, int averaging) {
        if (old == NONE || averaging <= 0) {
            return measured;
        }
        return (old * (averaging - 1) + measured) / averaging;
    }

    /** The frequencies over which it sweeps. */
    private static final class Lines {
        final int[] frequencies = new int[MAX_LINES];
        int count;

        /** Returns how many lines there would be, or one more than there may be if it is more. */
        static int countOf(int low, int high, int rate) {
            int lines = 0;
            int frequency = low;
            while (lines <= MAX_LINES && frequency <= high) {
                lines++;
                frequency = above(frequency, rate);
            }
            return lines;
        }

        static int above(int frequency, int rate) {
            return frequency + Math.max(1, frequency * rate / 1000);
        }

        void lay(int low, int rate, int lines) {
            count = Math.min(lines, MAX_LINES);
            int frequency = low;
            for (int line = 0; line < count; line++) {
                frequencies[line] = frequency;
                frequency = above(frequency, rate);
            }
        }

        void copyFrom(Lines other) {
            copyRow(other.frequencies, frequencies);
            count = other.count;
        }
    }

    /** The points of the profile, in ascending order of their frequencies. */
    private static final class Profile {
        final int[] frequencies = new int[MAX_POINTS];
        final int[] levels = new int[MAX_POINTS];
        int count;

        int put(int frequency, int level) {
            int place = placeOf(frequency);
            if (place < count && frequencies[place] == frequency) {
                levels[place] = level;
                return count;
            }
            if (count >= MAX_POINTS) {
                return FULL;
            }
            for (int point = count; point > place; point--) {
                frequencies[point] = frequencies[point - 1];
                levels[point] = levels[point - 1];
            }
            frequencies[place] = frequency;
            levels[place] = level;
            count++;
            return count;
        }

        /** Returns the first point that is not below a frequency, or the number of points. */
        int placeOf(int frequency) {
            int place = 0;
            while (place < count && frequencies[place] < frequency) {
                place++;
            }
            return place;
        }

        int targetAt(int frequency) {
            if (count == 0) {
                return NONE;
            }
            int place = placeOf(frequency);
            if (place == count) {
                return levels[count - 1];
            }
            if (place == 0 || frequencies[place] == frequency) {
                return levels[place];
            }
            return between(place - 1, place, frequency);
        }

        private int between(int lower, int upper, int frequency) {
            int below = frequency - frequencies[lower];
            int above = frequencies[upper] - frequency;
            int apart = below + above;
            return apart > 0 ? (levels[lower] * above + levels[upper] * below) / apart : NONE;
        }

        void copyFrom(Profile other) {
            copyRow(other.frequencies, frequencies);
            copyRow(other.levels, levels);
            count = other.count;
        }
    }

    /** A channel: what it is, and what the loops found of it. */
    private static final class Channel {
        boolean control;
        int baseGain;
        int abortLimit;
        final int[] centres = new int[MODES];
        final int[] widths = new int[MODES];
        final int[] peaks = new int[MODES];
        final int[] froms = new int[MAX_NOTCHES];
        final int[] tos = new int[MAX_NOTCHES];
        final int[] limits = new int[MAX_NOTCHES];
        int notches;

        final int[] levels = new int[MAX_LINES];
        final int[] averagedGains = new int[MAX_LINES];
        int latestLevel;
        int latestGain;
        int loopsAboveNotch;
        int mostLoopsAboveNotch;
        int greatestExcess;
        int loopsAboveAbort;

        void become(boolean asControl, int gain, int abort) {
            control = asControl;
            baseGain = gain;
            abortLimit = abort;
            Arrays.fill(centres, 1);
            Arrays.fill(widths, 1);
            Arrays.fill(peaks, 0);
            notches = 0;
            forgetRun();
            forgetGains();
        }

        void forgetRun() {
            Arrays.fill(levels, NONE);
            loopsAboveNotch = 0;
            mostLoopsAboveNotch = 0;
            greatestExcess = 0;
            loopsAboveAbort = 0;
        }

        void forgetGains() {
            Arrays.fill(averagedGains, NONE);
        }

        int putMode(int mode, int centre, int width, int peak) {
            if (!isWithin(mode, 0, MODES - 1)) {
                return BAD_INDEX;
            }
            if (!isFrequency(centre) || !isWithin(width, 1, 500) || !isWithin(peak, 0, 50000)) {
                return BAD_VALUE;
            }
            centres[mode] = centre;
            widths[mode] = width;
            peaks[mode] = peak;
            return gainAt(centre);
        }

        int putNotch(int from, int to, int limit) {
            if (!isFrequency(from) || !isWithin(to, from, MAX_FREQUENCY)
                    || !isWithin(limit, 1, MAX_LIMIT)) {
                return BAD_VALUE;
            }
            if (notches >= MAX_NOTCHES) {
                return FULL;
            }
            froms[notches] = from;
            tos[notches] = to;
            limits[notches] = limit;
            notches++;
            return notches - 1;
        }

        int gainAt(int frequency) {
            long sum = baseGain;
            for (int mode = 0; mode < MODES; mode++) {
                long away = frequency - centres[mode];
                long square = (long) widths[mode] * widths[mode];
                long divisor = square + away * away;
                if (divisor > 0) {
                    sum += peaks[mode] * square / divisor;
                }
            }
            return (int) sum;
        }

        int limitAt(int frequency) {
            int lowest = NONE;
            for (int notch = 0; notch < notches; notch++) {
                boolean here = froms[notch] <= frequency && frequency <= tos[notch];
                if (here && (lowest == NONE || limits[notch] < lowest)) {
                    lowest = limits[notch];
                }
            }
            return lowest;
        }

        void measure(int line, int frequency, int drive, int averaging) {
            latestLevel = (int) ((long) gainAt(frequency) * drive / 1000);
            latestGain = measuredGain(latestLevel, drive);
            levels[line] = latestLevel;
            averagedGains[line] = averagedGain(averagedGains[line], latestGain, averaging);
        }

        void countLoop(int frequency) {
            int limit = limitAt(frequency);
            boolean aboveNotch = limit != NONE && latestLevel > limit;
            loopsAboveNotch = aboveNotch ? loopsAboveNotch + 1 : 0;
            mostLoopsAboveNotch = Math.max(mostLoopsAboveNotch, loopsAboveNotch);
            if (aboveNotch) {
                greatestExcess = Math.max(greatestExcess, latestLevel - limit);
            }
            loopsAboveAbort = latestLevel > abortLimit ? loopsAboveAbort + 1 : 0;
        }

        /** Returns the greatest drive that keeps the notch limit at a line, NONE if any does. */
        int notchedDrive(int line, int frequency) {
            int limit = limitAt(frequency);
            int gain = averagedGains[line] != NONE ? averagedGains[line] : latestGain;
            return limit != NONE && gain > 0 ? (int) (limit * 1000L / gain) : NONE;
        }

        int propertyOf(int property) {
            switch (property) {
                case 0:
                    return control ? 1 : 0;
                case 1:
                    return baseGain;
                case 2:
                    return abortLimit;
                case 3:
                    return notches;
                case 4:
                    return loopsAboveNotch;
                case 5:
                    return mostLoopsAboveNotch;
                case 6:
                    return greatestExcess;
                default:
                    return loopsAboveAbort;
            }
        }

        int resonanceAt(int place, int lines) {
            for (int line = 0; line < lines; line++) {
                if (isResonance(line, lines) && resonancesAhead(line, lines) == place) {
                    return line;
                }
            }
            return NONE;
        }

        private int resonancesAhead(int line, int lines) {
            int ahead = 0;
            for (int other = 0; other < lines; other++) {
                boolean first = averagedGains[other] > averagedGains[line]
                        || averagedGains[other] == averagedGains[line] && other < line;
                if (first && isResonance(other, lines)) {
                    ahead++;
                }
            }
            return ahead;
        }

        private boolean isResonance(int line, int lines) {
            int gain = averagedGains[line];
            return gain != NONE && gain > gainOfLine(line - 1, lines)
                    && gain > gainOfLine(line + 1, lines);
        }

        /** NONE, for a line that there is not, is lower than every gain. */
        private int gainOfLine(int line, int lines) {
            return isWithin(line, 0, lines - 1) ? averagedGains[line] : NONE;
        }

        void copyFrom(Channel other) {
            control = other.control;
            baseGain = other.baseGain;
            abortLimit = other.abortLimit;
            copyRow(other.centres, centres);
            copyRow(other.widths, widths);
            copyRow(other.peaks, peaks);
            copyRow(other.froms, froms);
            copyRow(other.tos, tos);
            copyRow(other.limits, limits);
            notches = other.notches;
            copyRow(other.levels, levels);
            copyRow(other.averagedGains, averagedGains);
            latestLevel = other.latestLevel;
            latestGain = other.latestGain;
            loopsAboveNotch = other.loopsAboveNotch;
            mostLoopsAboveNotch = other.mostLoopsAboveNotch;
            greatestExcess = other.greatestExcess;
            loopsAboveAbort = other.loopsAboveAbort;
        }
    }

    /** All but the text, the history and the slots: what the history and the slots keep. */
    private static final class State {
        final Lines lines = new Lines();
        final Profile profile = new Profile();
        final Channel[] channels = new Channel[MAX_CHANNELS];
        int channelCount;
        final int[] settings = new int[SETTINGS];
        final int[] controlGains = new int[MAX_LINES];
        final int[] drives = new int[MAX_LINES];
        final int[] notchers = new int[MAX_LINES];
        int phase = IDLE;
        int line;
        int drive;
        boolean upwards;
        int finishedSweeps;
        int loops;
        int abortChannel;
        int abortLine;
        int reason = NOT_REFUSED;

        State() {
            for (int channel = 0; channel < MAX_CHANNELS; channel++) {
                channels[channel] = new Channel();
            }
            copyRow(SETTING_AT_FIRST, settings);
            forgetRun();
            forgetGains();
        }

        boolean hasLine(int number) {
            return isWithin(number, 0, lines.count - 1);
        }

        boolean hasChannel(int number) {
            return isWithin(number, 0, channelCount - 1);
        }

        boolean measures() {
            return phase == SWEEPING || phase == HOLDING;
        }

        boolean rests() {
            return !measures() && phase != ABORTING;
        }

        private void forgetRun() {
            for (int channel = 0; channel < channelCount; channel++) {
                channels[channel].forgetRun();
            }
            Arrays.fill(drives, NONE);
            Arrays.fill(notchers, NONE);
            upwards = true;
            finishedSweeps = 0;
            loops = 0;
            abortChannel = NONE;
            abortLine = NONE;
        }

        private void forgetGains() {
            for (int channel = 0; channel < channelCount; channel++) {
                channels[channel].forgetGains();
            }
            Arrays.fill(controlGains, NONE);
        }

        int layLines(int low, int high, int rate) {
            if (!isWithin(low, 5, 1000) || !isWithin(high, low, MAX_FREQUENCY)
                    || !isWithin(rate, 10, 1000)) {
                return BAD_VALUE;
            }
            if (!rests()) {
                return NOT_POSSIBLE;
            }
            int count = Lines.countOf(low, high, rate);
            if (count > MAX_LINES) {
                return FULL;
            }
            lines.lay(low, rate, count);
            forgetRun();
            forgetGains();
            phase = IDLE;
            line = 0;
            return count;
        }

        int putPoint(int frequency, int level) {
            if (!isFrequency(frequency) || !isWithin(level, 1, 50000)) {
                return BAD_VALUE;
            }
            if (!rests()) {
                return NOT_POSSIBLE;
            }
            return profile.put(frequency, level);
        }

        int joinChannel(boolean control, int gain, int abort) {
            if (!isWithin(gain, 0, 5000) || !isWithin(abort, 1, MAX_LIMIT)) {
                return BAD_VALUE;
            }
            if (!rests()) {
                return NOT_POSSIBLE;
            }
            if (channelCount >= MAX_CHANNELS) {
                return FULL;
            }
            channels[channelCount].become(control, gain, abort);
            channelCount++;
            return channelCount - 1;
        }

        int changeSetting(int setting, int value) {
            if (!isWithin(setting, 0, SETTINGS - 1)) {
                return BAD_INDEX;
            }
            if (!isWithin(value, SETTING_LEAST[setting], SETTING_GREATEST[setting])) {
                return BAD_VALUE;
            }
            int before = settings[setting];
            settings[setting] = value;
            return before;
        }

        int begin(int firstDrive) {
            if (!isWithin(firstDrive, 1, MAX_START_DRIVE)) {
                return BAD_VALUE;
            }
            reason = reasonToRefuse();
            if (reason != NOT_REFUSED) {
                return REFUSED;
            }
            forgetRun();
            phase = SWEEPING;
            line = 0;
            drive = firstDrive;
            drives[0] = firstDrive;
            return lines.count;
        }

        private int reasonToRefuse() {
            if (!rests()) {
                return DOES_NOT_REST;
            }
            if (lines.count == 0) {
                return NO_LINES;
            }
            if (profile.count == 0) {
                return NO_POINTS;
            }
            for (int channel = 0; channel < channelCount; channel++) {
                if (channels[channel].control) {
                    return NOT_REFUSED;
                }
            }
            return NO_CONTROL_CHANNEL;
        }

        int holdOrGoOn(boolean on) {
            if (phase != (on ? SWEEPING : HOLDING)) {
                return NOT_POSSIBLE;
            }
            phase = on ? HOLDING : SWEEPING;
            return line;
        }

        int abortByHand() {
            if (!measures()) {
                return NOT_POSSIBLE;
            }
            beginAbort(NONE);
            return line;
        }

        private void beginAbort(int channel) {
            phase = ABORTING;
            abortChannel = channel;
            abortLine = line;
        }

        int doLoops(int most) {
            if (!isWithin(most, 1, MAX_STEP)) {
                return BAD_VALUE;
            }
            if (rests()) {
                return NOT_POSSIBLE;
            }
            int done = 0;
            while (done < most && !rests()) {
                doLoop();
                done++;
            }
            return done;
        }

        /** Does a loop, in a state that does not rest. */
        void doLoop() {
            loops++;
            if (phase == ABORTING) {
                rampDown();
                return;
            }
            if (!hasLine(line)) {
                return;
            }
            int frequency = lines.frequencies[line];
            int controlLevel = measureLevels(frequency);
            int offender = countLoop(frequency);
            if (offender != NONE) {
                beginAbort(offender);
                return;
            }
            int next = phase == HOLDING ? line : nextLine();
            if (next == NONE) {
                phase = DONE;
                drive = 0;
                return;
            }
            goTo(next, controlLevel);
        }

        private void rampDown() {
            drive = drive * settings[RAMP] / 100;
            if (drive == 0) {
                phase = ABORTED;
            }
        }

        /** Measures all channels at the line; returns the control level. */
        private int measureLevels(int frequency) {
            int averaging = settings[AVERAGING];
            for (int channel = 0; channel < channelCount; channel++) {
                channels[channel].measure(line, frequency, drive, averaging);
            }
            int level = controlLevel();
            int measured = measuredGain(level, drive);
            controlGains[line] = averagedGain(controlGains[line], measured, averaging);
            return level;
        }

        private int controlLevel() {
            int controls = 0;
            int sum = 0;
            int greatest = 0;
            int least = 0;
            for (int channel = 0; channel < channelCount; channel++) {
                if (channels[channel].control) {
                    int level = channels[channel].latestLevel;
                    sum += level;
                    greatest = Math.max(greatest, level);
                    least = controls == 0 ? level : Math.min(least, level);
                    controls++;
                }
            }
            if (settings[STRATEGY] == MAXIMUM) {
                return greatest;
            }
            if (settings[STRATEGY] == MINIMUM) {
                return least;
            }
            return controls > 0 ? sum / controls : 0;
        }

        /** Counts the loop for all channels; returns the one that makes it abort, or NONE. */
        private int countLoop(int frequency) {
            int offender = NONE;
            for (int channel = 0; channel < channelCount; channel++) {
                channels[channel].countLoop(frequency);
                boolean offends = channels[channel].loopsAboveAbort >= settings[PATIENCE];
                if (offends && offender == NONE) {
                    offender = channel;
                }
            }
            return offender;
        }

        /** Returns the line after this one, turning at an end; NONE after the last sweep. */
        private int nextLine() {
            int ahead = lineAhead();
            if (hasLine(ahead)) {
                return ahead;
            }
            finishedSweeps++;
            if (finishedSweeps >= settings[SWEEPS]) {
                return NONE;
            }
            upwards = !upwards;
            int back = lineAhead();
            return hasLine(back) ? back : line;
        }

        private int lineAhead() {
            return upwards ? line + 1 : line - 1;
        }

        private void goTo(int next, int controlLevel) {
            int frequency = lines.frequencies[next];
            long found = wantedDrive(next, profile.targetAt(frequency), controlLevel);
            found = Math.max(found, drive - drive / 2);
            found = Math.min(found, drive + drive * settings[RISE] / 100 + 1);
            int notcher = NONE;
            for (int channel = 0; channel < channelCount; channel++) {
                int notched = channels[channel].notchedDrive(next, frequency);
                if (notched != NONE && found > notched) {
                    found = notched;
                    notcher = channel;
                }
            }
            drive = (int) Math.max(1, Math.min(found, MAX_DRIVE));
            line = next;
            drives[line] = drive;
            notchers[line] = notcher;
        }

        /** A product of a drive and a target can be beyond an int. */
        private long wantedDrive(int next, int target, int controlLevel) {
            int gain = controlGains[next];
            if (gain > 0) {
                return target * 1000L / gain;
            }
            if (controlLevel > 0) {
                return (long) drive * target / controlLevel;
            }
            return 2L * drive;
        }

        int totalOf(int property) {
            switch (property) {
                case 0:
                    return phase;
                case 1:
                    return phase == IDLE ? NONE : line;
                case 2:
                    return drive;
                case 3:
                    return lines.count;
                case 4:
                    return profile.count;
                case 5:
                    return channelCount;
                case 6:
                    return finishedSweeps;
                case 7:
                    return upwards ? 1 : 0;
                case 8:
                    return loops;
                case 9:
                    return abortChannel;
                case 10:
                    return abortLine;
                default:
                    return reason;
            }
        }

        void copyFrom(State other) {
            lines.copyFrom(other.lines);
            profile.copyFrom(other.profile);
            for (int channel = 0; channel < other.channelCount; channel++) {
                channels[channel].copyFrom(other.channels[channel]);
            }
            channelCount = other.channelCount;
            copyRow(other.settings, settings);
            copyRow(other.controlGains, controlGains);
            copyRow(other.drives, drives);
            copyRow(other.notchers, notchers);
            phase = other.phase;
            line = other.line;
            drive = other.drive;
            upwards = other.upwards;
            finishedSweeps = other.finishedSweeps;
            loops = other.loops;
            abortChannel = other.abortChannel;
            abortLine = other.abortLine;
            reason = other.reason;
        }
    }

    /**
     * The states that can be gone back to, in a ring. It has a place more than it keeps: there a
     * state is noted ahead of a call of which it is not yet known whether it reports an error.
     */
    private static final class History {
        private static final int PLACES = MAX_HISTORY + 1;

        final State[] states = new State[PLACES];
        int noted;
        int count;

        History() {
            for (int place = 0; place < PLACES; place++) {
                states[place] = new State();
            }
        }

        void note(State state) {
            states[noted].copyFrom(state);
        }

        void keepNoted() {
            noted = (noted + 1) % PLACES;
            count = Math.min(count + 1, MAX_HISTORY);
        }

        int takeBack(State into) {
            if (count == 0) {
                return NOT_POSSIBLE;
            }
            noted = (noted + PLACES - 1) % PLACES;
            count--;
            into.copyFrom(states[noted]);
            return count;
        }
    }

    /** The text, with the place where its reading stands and the act that was read last. */
    private static final class Text {
        final int[] bytes = new int[MAX_TEXT];
        int length;
        int at;
        int act;
        int number;
        int first;
        int second;

        int add(int b) {
            if (!isWithin(b, 32, 126)) {
                return BAD_VALUE;
            }
            if (length >= MAX_TEXT) {
                return FULL;
            }
            bytes[length] = b;
            length++;
            return length;
        }

        void rewind() {
            at = 0;
        }

        int findFault() {
            rewind();
            for (int acts = 0; acts < MAX_TEXT && at < length; acts++) {
                if (!readAct()) {
                    return at;
                }
            }
            return NONE;
        }

        /** Reads an act; where there is none, the reading stands at the fault, or at the end. */
        boolean readAct() {
            act = here();
            switch (act) {
                case 'g':
                    at++;
                    return readFirst(1, 999) && readSign(';');
                case 's':
                    at++;
                    return readFirst(1, MAX_STEP) && readSign(';');
                case 'h':
                case 'r':
                case 'x':
                    at++;
                    return readSign(';');
                case 'c':
                    at++;
                    return readFirst(0, SETTINGS - 1) && readSign('=') && readSecond(0, 100)
                            && readSign(';');
                default:
                    return false;
            }
        }

        private int here() {
            return isWithin(at, 0, length - 1) ? bytes[at] : NONE;
        }

        private boolean readSign(int sign) {
            if (here() != sign) {
                return false;
            }
            at++;
            return true;
        }

        private boolean readFirst(int least, int greatest) {
            boolean read = readNumber(least, greatest);
            first = number;
            return read;
        }

        private boolean readSecond(int least, int greatest) {
            boolean read = readNumber(least, greatest);
            second = number;
            return read;
        }

        private boolean readNumber(int least, int greatest) {
            int start = at;
            int digits = 0;
            number = 0;
            while (digits < 3 && isWithin(here(), '0', '9') && !(digits > 0 && number == 0)) {
                number = number * 10 + here() - '0';
                digits++;
                at++;
            }
            if (digits == 0) {
                return false;
            }
            if (!isWithin(number, least, greatest)) {
                at = start;
                return false;
            }
            return true;
        }
    }
}
