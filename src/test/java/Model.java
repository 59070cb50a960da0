import java.util.ArrayDeque;
import java.util.ArrayList;
import java.util.Arrays;
import java.util.Deque;
import java.util.HashMap;
import java.util.List;
import java.util.Map;
import java.util.TreeMap;
import java.util.regex.Matcher;
import java.util.regex.Pattern;

/**
 * A second reading of the document, as close to its words as can be and without a thought for
 * memory: states are copied whole, numbers are exact, and what is not there is not in a map.
 */
final class Model {
    static final int BAD_INDEX = -1;
    static final int BAD_VALUE = -2;
    static final int NOT_POSSIBLE = -3;
    static final int FULL = -4;
    static final int REFUSED = -5;
    static final int NONE = -6;

    private enum Phase { IDLE, SWEEPING, HOLDING, ABORTING, ABORTED, DONE }

    private static final int[][] RANGES = {{0, 2}, {1, 8}, {1, 5}, {1, 100}, {10, 90}, {1, 9}};

    private static final class Chan {
        boolean control;
        int base;
        int abort;
        int[][] modes = {{1, 1, 0}, {1, 1, 0}, {1, 1, 0}};
        List<int[]> notches = new ArrayList<>();
        Map<Integer, Long> levels = new HashMap<>();
        Map<Integer, Long> averaged = new HashMap<>();
        long above;
        long aboveMost;
        long excess;
        long tooHigh;

        Chan copy() {
            Chan c = new Chan();
            c.control = control;
            c.base = base;
            c.abort = abort;
            for (int m = 0; m < 3; m++) {
                c.modes[m] = modes[m].clone();
            }
            for (int[] notch : notches) {
                c.notches.add(notch.clone());
            }
            c.levels = new HashMap<>(levels);
            c.averaged = new HashMap<>(averaged);
            c.above = above;
            c.aboveMost = aboveMost;
            c.excess = excess;
            c.tooHigh = tooHigh;
            return c;
        }

        void forget() {
            levels.clear();
            above = 0;
            aboveMost = 0;
            excess = 0;
            tooHigh = 0;
        }

        long gain(long f) {
            long gain = base;
            for (int[] mode : modes) {
                long ww = Math.multiplyExact((long) mode[1], (long) mode[1]);
                long d = f - mode[0];
                gain += Math.floorDiv(Math.multiplyExact(mode[2], ww), ww + d * d);
            }
            return gain;
        }

        Long limit(long f) {
            Long lowest = null;
            for (int[] notch : notches) {
                if (notch[0] <= f && f <= notch[1]) {
                    lowest = lowest == null ? notch[2] : Math.min(lowest, notch[2]);
                }
            }
            return lowest;
        }
    }

    private static final class All {
        List<Integer> lines = new ArrayList<>();
        TreeMap<Integer, Integer> points = new TreeMap<>();
        List<Chan> channels = new ArrayList<>();
        int[] settings = {0, 1, 1, 25, 50, 1};
        Phase phase = Phase.IDLE;
        int line;
        long drive;
        boolean up = true;
        int finished;
        long loops;
        Integer abortChannel;
        Integer abortLine;
        int reason;
        Map<Integer, Long> control = new HashMap<>();
        Map<Integer, Long> drives = new HashMap<>();
        Map<Integer, Integer> notchers = new HashMap<>();

        All copy() {
            All a = new All();
            a.lines = new ArrayList<>(lines);
            a.points = new TreeMap<>(points);
            for (Chan c : channels) {
                a.channels.add(c.copy());
            }
            a.settings = settings.clone();
            a.phase = phase;
            a.line = line;
            a.drive = drive;
            a.up = up;
            a.finished = finished;
            a.loops = loops;
            a.abortChannel = abortChannel;
            a.abortLine = abortLine;
            a.reason = reason;
            a.control = new HashMap<>(control);
            a.drives = new HashMap<>(drives);
            a.notchers = new HashMap<>(notchers);
            return a;
        }

        boolean rests() {
            return phase == Phase.IDLE || phase == Phase.ABORTED || phase == Phase.DONE;
        }

        void forget() {
            channels.forEach(Chan::forget);
            drives.clear();
            notchers.clear();
            abortChannel = null;
            abortLine = null;
            up = true;
            finished = 0;
            loops = 0;
        }

        long target(int f) {
            if (points.containsKey(f)) {
                return points.get(f);
            }
            Map.Entry<Integer, Integer> a = points.lowerEntry(f);
            Map.Entry<Integer, Integer> b = points.higherEntry(f);
            if (a == null) {
                return b.getValue();
            }
            if (b == null) {
                return a.getValue();
            }
            long p = a.getValue();
            long q = b.getValue();
            return Math.floorDiv(p * (b.getKey() - f) + q * (f - a.getKey()),
                    (long) b.getKey() - a.getKey());
        }

        long average(Long old, long measured) {
            long n = settings[1];
            return old == null ? measured : Math.floorDiv(old * (n - 1) + measured, n);
        }

        /** Returns the levels of the channels in the loop, or null where none were found. */
        List<Long> loop() {
            loops++;
            if (phase == Phase.ABORTING) {
                drive = Math.floorDiv(drive * settings[4], 100L);
                if (drive == 0) {
                    phase = Phase.ABORTED;
                }
                return null;
            }
            int f = lines.get(line);
            List<Long> levels = new ArrayList<>();
            List<Long> measured = new ArrayList<>();
            List<Long> ofControls = new ArrayList<>();
            for (Chan c : channels) {
                long level = Math.floorDiv(Math.multiplyExact(c.gain(f), drive), 1000L);
                levels.add(level);
                measured.add(Math.floorDiv(level * 1000, drive));
                if (c.control) {
                    ofControls.add(level);
                }
            }
            long sum = ofControls.stream().mapToLong(x -> x).sum();
            long controlLevel = settings[0] == 0 ? Math.floorDiv(sum, (long) ofControls.size())
                    : settings[0] == 1 ? ofControls.stream().mapToLong(x -> x).max().getAsLong()
                    : ofControls.stream().mapToLong(x -> x).min().getAsLong();
            for (int i = 0; i < channels.size(); i++) {
                Chan c = channels.get(i);
                c.levels.put(line, levels.get(i));
                c.averaged.put(line, average(c.averaged.get(line), measured.get(i)));
            }
            control.put(line,
                    average(control.get(line), Math.floorDiv(controlLevel * 1000, drive)));
            for (int i = 0; i < channels.size(); i++) {
                Chan c = channels.get(i);
                Long limit = c.limit(f);
                if (limit != null && levels.get(i) > limit) {
                    c.above++;
                    c.excess = Math.max(c.excess, levels.get(i) - limit);
                } else {
                    c.above = 0;
                }
                c.aboveMost = Math.max(c.aboveMost, c.above);
            }
            for (int i = 0; i < channels.size(); i++) {
                Chan c = channels.get(i);
                c.tooHigh = levels.get(i) > c.abort ? c.tooHigh + 1 : 0;
            }
            for (int i = 0; i < channels.size(); i++) {
                if (channels.get(i).tooHigh >= settings[2]) {
                    phase = Phase.ABORTING;
                    abortChannel = i;
                    abortLine = line;
                    return levels;
                }
            }
            int next = line;
            if (phase == Phase.SWEEPING) {
                next = up ? line + 1 : line - 1;
                if (next < 0 || next == lines.size()) {
                    finished++;
                    if (finished >= settings[5]) {
                        phase = Phase.DONE;
                        drive = 0;
                        return levels;
                    }
                    up = !up;
                    next = lines.size() == 1 ? line : up ? line + 1 : line - 1;
                }
            }
            int g = lines.get(next);
            long wanted;
            if (control.containsKey(next) && control.get(next) > 0) {
                wanted = Math.floorDiv(target(g) * 1000, control.get(next));
            } else if (controlLevel > 0) {
                wanted = Math.floorDiv(Math.multiplyExact(drive, target(g)), controlLevel);
            } else {
                wanted = 2 * drive;
            }
            if (wanted < drive - Math.floorDiv(drive, 2L)) {
                wanted = drive - Math.floorDiv(drive, 2L);
            }
            if (wanted > drive + Math.floorDiv(drive * settings[3], 100L) + 1) {
                wanted = drive + Math.floorDiv(drive * settings[3], 100L) + 1;
            }
            Integer notcher = null;
            for (int i = 0; i < channels.size(); i++) {
                Chan c = channels.get(i);
                Long limit = c.limit(g);
                if (limit == null) {
                    continue;
                }
                long gain = c.averaged.containsKey(next) ? c.averaged.get(next) : measured.get(i);
                if (gain > 0 && wanted > Math.floorDiv(limit * 1000, gain)) {
                    wanted = Math.floorDiv(limit * 1000, gain);
                    notcher = i;
                }
            }
            wanted = Math.max(1, Math.min(100000, wanted));
            line = next;
            drive = wanted;
            drives.put(next, drive);
            if (notcher == null) {
                notchers.remove(next);
            } else {
                notchers.put(next, notcher);
            }
            return levels;
        }
    }

    private All now = new All();
    private final Deque<All> past = new ArrayDeque<>();
    private final All[] slots = new All[2];
    private String text = "";

    private static boolean out(long value, long least, long greatest) {
        return value < least || value > greatest;
    }

    private static int orNone(Number number) {
        return number == null ? NONE : Math.toIntExact(number.longValue());
    }

    private int record(All before, int answer) {
        if (answer >= 0) {
            past.addLast(before);
            if (past.size() > 5) {
                past.removeFirst();
            }
        }
        return answer;
    }

    private boolean noChannel(int channel) {
        return out(channel, 0, now.channels.size() - 1);
    }

    private boolean noLine(int line) {
        return out(line, 0, now.lines.size() - 1);
    }

    int setLines(int low, int high, int rate) {
        if (out(low, 5, 1000) || out(high, low, 2000) || out(rate, 10, 1000)) {
            return BAD_VALUE;
        }
        if (!now.rests()) {
            return NOT_POSSIBLE;
        }
        List<Integer> lines = new ArrayList<>();
        for (int f = low; f <= high; f += Math.max(1, f * rate / 1000)) {
            lines.add(f);
        }
        if (lines.size() > 100) {
            return FULL;
        }
        All before = now.copy();
        now.lines = lines;
        now.forget();
        now.channels.forEach(c -> c.averaged.clear());
        now.control.clear();
        now.phase = Phase.IDLE;
        return record(before, lines.size());
    }

    int setPoint(int frequency, int level) {
        if (out(frequency, 1, 2000) || out(level, 1, 50000)) {
            return BAD_VALUE;
        }
        if (!now.rests()) {
            return NOT_POSSIBLE;
        }
        if (now.points.size() == 8 && !now.points.containsKey(frequency)) {
            return FULL;
        }
        All before = now.copy();
        now.points.put(frequency, level);
        return record(before, now.points.size());
    }

    int addChannel(boolean control, int gain, int abort) {
        if (out(gain, 0, 5000) || out(abort, 1, 200000)) {
            return BAD_VALUE;
        }
        if (!now.rests()) {
            return NOT_POSSIBLE;
        }
        if (now.channels.size() == 6) {
            return FULL;
        }
        All before = now.copy();
        Chan c = new Chan();
        c.control = control;
        c.base = gain;
        c.abort = abort;
        now.channels.add(c);
        return record(before, now.channels.size() - 1);
    }

    int setMode(int channel, int mode, int centre, int width, int peak) {
        if (noChannel(channel) || out(mode, 0, 2)) {
            return BAD_INDEX;
        }
        if (out(centre, 1, 2000) || out(width, 1, 500) || out(peak, 0, 50000)) {
            return BAD_VALUE;
        }
        All before = now.copy();
        now.channels.get(channel).modes[mode] = new int[] {centre, width, peak};
        return record(before, orNone(now.channels.get(channel).gain(centre)));
    }

    int addNotch(int channel, int from, int to, int limit) {
        if (noChannel(channel)) {
            return BAD_INDEX;
        }
        if (out(from, 1, 2000) || out(to, from, 2000) || out(limit, 1, 200000)) {
            return BAD_VALUE;
        }
        if (now.channels.get(channel).notches.size() == 4) {
            return FULL;
        }
        All before = now.copy();
        now.channels.get(channel).notches.add(new int[] {from, to, limit});
        return record(before, now.channels.get(channel).notches.size() - 1);
    }

    int set(int setting, int value) {
        All before = now.copy();
        return record(before, doSet(setting, value));
    }

    private int doSet(int setting, int value) {
        if (out(setting, 0, 5)) {
            return BAD_INDEX;
        }
        if (out(value, RANGES[setting][0], RANGES[setting][1])) {
            return BAD_VALUE;
        }
        int before = now.settings[setting];
        now.settings[setting] = value;
        return before;
    }

    int start(int drive) {
        All before = now.copy();
        return record(before, doStart(drive));
    }

    private int doStart(int drive) {
        if (out(drive, 1, 1000)) {
            return BAD_VALUE;
        }
        now.reason = !now.rests() ? 1 : now.lines.isEmpty() ? 2 : now.points.isEmpty() ? 3
                : now.channels.stream().noneMatch(c -> c.control) ? 4 : 0;
        if (now.reason != 0) {
            return REFUSED;
        }
        now.forget();
        now.phase = Phase.SWEEPING;
        now.line = 0;
        now.drive = drive;
        now.drives.put(0, (long) drive);
        return now.lines.size();
    }

    int step(int loops) {
        All before = now.copy();
        return record(before, doStep(loops));
    }

    private int doStep(int loops) {
        if (out(loops, 1, 50)) {
            return BAD_VALUE;
        }
        if (now.rests()) {
            return NOT_POSSIBLE;
        }
        int done = 0;
        for (; done < loops && !now.rests(); done++) {
            now.loop();
        }
        return done;
    }

    int hold(boolean on) {
        All before = now.copy();
        return record(before, doHold(on));
    }

    private int doHold(boolean on) {
        if (on && now.phase != Phase.SWEEPING || !on && now.phase != Phase.HOLDING) {
            return NOT_POSSIBLE;
        }
        now.phase = on ? Phase.HOLDING : Phase.SWEEPING;
        return now.line;
    }

    int abort() {
        All before = now.copy();
        return record(before, doAbort());
    }

    private int doAbort() {
        if (now.rests() || now.phase == Phase.ABORTING) {
            return NOT_POSSIBLE;
        }
        now.phase = Phase.ABORTING;
        now.abortLine = now.line;
        now.abortChannel = null;
        return now.line;
    }

    int append(int b) {
        if (out(b, 32, 126)) {
            return BAD_VALUE;
        }
        if (text.length() == 80) {
            return FULL;
        }
        text += (char) b;
        return text.length();
    }

    int clearText() {
        int length = text.length();
        text = "";
        return length;
    }

    private static final Pattern NUMBER = Pattern.compile("0|[1-9][0-9]{0,2}");
    private static final Map<Character, String> FORMS = Map.of(
            'g', "D;", 's', "L;", 'h', ";", 'r', ";", 'x', ";", 'c', "S=V;");
    private static final Map<Character, int[]> NUMBERS = Map.of(
            'D', new int[] {1, 999}, 'L', new int[] {1, 50}, 'S', new int[] {0, 5},
            'V', new int[] {0, 100});

    int faultPosition() {
        int at = 0;
        while (at < text.length()) {
            String form = FORMS.get(text.charAt(at));
            if (form == null) {
                return at;
            }
            at++;
            for (char sign : form.toCharArray()) {
                int[] range = NUMBERS.get(sign);
                if (range == null) {
                    if (at == text.length() || text.charAt(at) != sign) {
                        return at;
                    }
                    at++;
                    continue;
                }
                Matcher number = NUMBER.matcher(text).region(at, text.length());
                if (!number.lookingAt()
                        || out(Integer.parseInt(number.group()), range[0], range[1])) {
                    return at;
                }
                at = number.end();
            }
        }
        return NONE;
    }

    int run() {
        if (faultPosition() != NONE) {
            return NOT_POSSIBLE;
        }
        All before = now.copy();
        int done = 0;
        for (String act : text.split(";")) {
            if (act.isEmpty() || doAct(act.charAt(0), act.substring(1)) < 0) {
                break;
            }
            done++;
        }
        return record(before, done);
    }

    private int doAct(char act, String rest) {
        if (act == 'g') {
            return doStart(Integer.parseInt(rest));
        }
        if (act == 's') {
            return doStep(Integer.parseInt(rest));
        }
        if (act == 'x') {
            return doAbort();
        }
        if (act == 'c') {
            String[] parts = rest.split("=");
            return doSet(Integer.parseInt(parts[0]), Integer.parseInt(parts[1]));
        }
        return doHold(act == 'h');
    }

    int undo() {
        if (past.isEmpty()) {
            return NOT_POSSIBLE;
        }
        now = past.removeLast();
        return past.size();
    }

    int save(int slot) {
        if (out(slot, 0, 1)) {
            return BAD_INDEX;
        }
        slots[slot] = now.copy();
        return now.phase.ordinal();
    }

    int restore(int slot) {
        if (out(slot, 0, 1)) {
            return BAD_INDEX;
        }
        if (slots[slot] == null) {
            return NOT_POSSIBLE;
        }
        All before = now;
        now = slots[slot].copy();
        return record(before, now.phase.ordinal());
    }

    int frequency(int line) {
        return noLine(line) ? BAD_INDEX : now.lines.get(line);
    }

    int target(int frequency) {
        return out(frequency, 1, 2000) ? BAD_VALUE
                : now.points.isEmpty() ? NONE : orNone(now.target(frequency));
    }

    int gain(int channel, int frequency) {
        return noChannel(channel) ? BAD_INDEX : out(frequency, 1, 2000) ? BAD_VALUE
                : orNone(now.channels.get(channel).gain(frequency));
    }

    int limit(int channel, int frequency) {
        return noChannel(channel) ? BAD_INDEX : out(frequency, 1, 2000) ? BAD_VALUE
                : orNone(now.channels.get(channel).limit(frequency));
    }

    int channel(int channel, int property) {
        if (noChannel(channel)) {
            return BAD_INDEX;
        }
        if (out(property, 0, 7)) {
            return BAD_VALUE;
        }
        Chan c = now.channels.get(channel);
        List<Number> properties = Arrays.asList(c.control ? 1 : 0, c.base, c.abort,
                c.notches.size(), c.above, c.aboveMost, c.excess, c.tooHigh);
        return orNone(properties.get(property));
    }

    int level(int line, int channel) {
        return noLine(line) || noChannel(channel) ? BAD_INDEX
                : orNone(now.channels.get(channel).levels.get(line));
    }

    int averaged(int line, int channel) {
        return noLine(line) || noChannel(channel) ? BAD_INDEX
                : orNone(now.channels.get(channel).averaged.get(line));
    }

    int controlGain(int line) {
        return noLine(line) ? BAD_INDEX : orNone(now.control.get(line));
    }

    int driveAt(int line) {
        return noLine(line) ? BAD_INDEX : orNone(now.drives.get(line));
    }

    int notchedBy(int line) {
        return noLine(line) ? BAD_INDEX : orNone(now.notchers.get(line));
    }

    int resonance(int channel, int place) {
        if (noChannel(channel)) {
            return BAD_INDEX;
        }
        if (place < 0) {
            return BAD_VALUE;
        }
        Map<Integer, Long> gains = now.channels.get(channel).averaged;
        List<Integer> found = new ArrayList<>();
        for (int line = 0; line < now.lines.size(); line++) {
            if (gains.containsKey(line) && gains.get(line) > gains.getOrDefault(line - 1, -1L)
                    && gains.get(line) > gains.getOrDefault(line + 1, -1L)) {
                found.add(line);
            }
        }
        found.sort((a, b) -> Long.compare(gains.get(b), gains.get(a)));
        return place < found.size() ? found.get(place) : NONE;
    }

    int total(int property) {
        if (out(property, 0, 19)) {
            return BAD_VALUE;
        }
        List<Number> totals = new ArrayList<>(Arrays.asList(now.phase.ordinal(),
                now.phase == Phase.IDLE ? null : (Integer) now.line, now.drive, now.lines.size(),
                now.points.size(), now.channels.size(), now.finished, now.up ? 1 : 0, now.loops,
                now.abortChannel, now.abortLine, now.reason, past.size(), text.length()));
        for (int setting : now.settings) {
            totals.add(setting);
        }
        return orNone(totals.get(property));
    }

    int loopsLeft() {
        All ahead = now.copy();
        for (int done = 0; done <= 500; done++) {
            if (ahead.rests()) {
                return done;
            }
            ahead.loop();
        }
        return NONE;
    }

    int wouldAbort(int loops) {
        if (out(loops, 1, 300)) {
            return BAD_VALUE;
        }
        if (now.rests() || now.phase == Phase.ABORTING) {
            return NONE;
        }
        All ahead = now.copy();
        for (int done = 0; done < loops && !ahead.rests(); done++) {
            ahead.loop();
            if (ahead.abortChannel != null) {
                return ahead.abortChannel;
            }
        }
        return NONE;
    }

    int highest(int channel, int loops) {
        if (noChannel(channel)) {
            return BAD_INDEX;
        }
        if (out(loops, 1, 300)) {
            return BAD_VALUE;
        }
        All ahead = now.copy();
        Long highest = null;
        for (int done = 0; done < loops && !ahead.rests(); done++) {
            List<Long> levels = ahead.loop();
            if (levels != null) {
                long level = levels.get(channel);
                highest = highest == null ? level : Math.max(highest, level);
            }
        }
        return orNone(highest);
    }
}
