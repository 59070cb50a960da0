import java.util.Random;

/**
 * Long runs of calls, drawn from fixed seeds, on the program and on the model side by side. After
 * each call that can change something, some of what can be looked at is compared, too; at the end
 * of a run, all of it.
 */
public final class RandomRunsTest {
    private static final int RUNS = 400;
    private static final int CALLS = 400;
    private static final String[] ACTS = {
        "g9;", "g50;", "g999;", "s1;", "s3;", "s20;", "s50;", "h;", "r;", "x;", "c0=1;", "c0=2;",
        "c1=3;", "c2=2;", "c3=100;", "c4=90;", "c5=3;", "c5=0;", "c4=9;", "g0;", "s51;", "c6=1;",
        "c1=101;", "c1=1000;", "g1000;", "s07;", "h", "c3", "c3=", "s", "k;", ";",
    };

    private final Due due;
    private final Random random;
    private final ShakerSweep program = new ShakerSweep();
    private final Model model = new Model();
    private final String run;

    private RandomRunsTest(Due due, long seed) {
        this.due = due;
        this.random = new Random(seed);
        this.run = "seed " + seed + ", ";
    }

    private void is(String call, int got, int want) {
        due.is(run + call, got, want);
    }

    private boolean chance(int percent) {
        return random.nextInt(100) < percent;
    }

    private int in(int least, int greatest) {
        return least + random.nextInt(greatest - least + 1);
    }

    /** Mostly in the range, often at its edges, sometimes just outside or far away. */
    private int near(int least, int greatest) {
        int kind = random.nextInt(40);
        if (kind == 0) {
            return least - 1;
        }
        if (kind == 1) {
            return greatest + 1;
        }
        if (kind == 2) {
            return new int[] {Integer.MIN_VALUE, Integer.MAX_VALUE, -1, 0}[random.nextInt(4)];
        }
        if (kind < 6) {
            return chance(50) ? least : greatest;
        }
        return in(least, greatest);
    }

    private static int bounded(int frequency) {
        return Math.max(1, Math.min(frequency, 2000));
    }

    /** Small numbers are as likely as great ones. */
    private int scaled(int greatest) {
        return chance(5) ? near(1, greatest) : 1 + random.nextInt(1 + random.nextInt(greatest));
    }

    private int channel() {
        int channels = model.total(5);
        return chance(95) && channels > 0 ? in(0, channels - 1) : near(0, 5);
    }

    private int line() {
        int lines = model.total(3);
        return chance(95) && lines > 0 ? in(0, lines - 1) : near(0, 99);
    }

    private int frequencyNearLines() {
        int frequency = chance(80) ? model.frequency(line()) : 0;
        return frequency > 0 ? Math.max(1, frequency + in(-2, 2)) : near(1, 2000);
    }

    private void setLines() {
        int low = chance(80) ? in(5, 60) : near(5, 1000);
        int high = chance(80) ? in(0, 80) + low : near(bounded(low), 2000);
        int rate = chance(80) ? in(50, 400) : near(10, 1000);
        is("setLines(" + low + ", " + high + ", " + rate + ")",
                program.setLines(low, high, rate), model.setLines(low, high, rate));
    }

    private void setPoint() {
        int frequency = frequencyNearLines();
        int level = chance(60) ? in(1, 3000) : near(1, 50000);
        is("setPoint(" + frequency + ", " + level + ")",
                program.setPoint(frequency, level), model.setPoint(frequency, level));
    }

    private void addChannel() {
        boolean control = random.nextBoolean();
        int gain = chance(15) ? in(0, 3) : near(0, 5000);
        int abort = chance(60) ? near(1, 200000) : scaled(20000);
        is("addChannel(" + control + ", " + gain + ", " + abort + ")",
                program.addChannel(control, gain, abort), model.addChannel(control, gain, abort));
    }

    private void setMode() {
        int channel = channel();
        int mode = near(0, 2);
        int centre = frequencyNearLines();
        int width = chance(70) ? in(1, 10) : near(1, 500);
        int peak = chance(70) ? scaled(9000) : near(0, 50000);
        is("setMode(" + channel + ", " + mode + ", " + centre + ", " + width + ", " + peak + ")",
                program.setMode(channel, mode, centre, width, peak),
                model.setMode(channel, mode, centre, width, peak));
    }

    private void addNotch() {
        int channel = channel();
        int from = frequencyNearLines();
        int to = chance(80) ? from + in(0, 30) : near(bounded(from), 2000);
        int limit = chance(80) ? scaled(5000) : near(1, 200000);
        is("addNotch(" + channel + ", " + from + ", " + to + ", " + limit + ")",
                program.addNotch(channel, from, to, limit),
                model.addNotch(channel, from, to, limit));
    }

    private void set() {
        int[] greatest = {2, 8, 5, 100, 90, 9};
        int setting = near(0, 5);
        int value = setting < 0 || setting > 5 || chance(5) ? near(0, 100)
                : setting == 2 || setting == 5 ? in(1, 3) : near(0, greatest[setting]);
        is("set(" + setting + ", " + value + ")",
                program.set(setting, value), model.set(setting, value));
    }

    private void start() {
        int drive = near(1, 1000);
        is("start(" + drive + ")", program.start(drive), model.start(drive));
    }

    private void step() {
        int loops = chance(80) ? in(1, 6) : near(1, 50);
        is("step(" + loops + ")", program.step(loops), model.step(loops));
    }

    private void append() {
        String act = chance(90) ? ACTS[random.nextInt(random.nextInt(8) == 0 ? ACTS.length : 19)]
                : String.valueOf((char) in(32, 126));
        for (char b : act.toCharArray()) {
            is("append(" + b + ")", program.append(b), model.append(b));
        }
        if (chance(5)) {
            int b = near(32, 126);
            is("append(" + b + ")", program.append(b), model.append(b));
        }
    }

    private void change(int kind) {
        boolean on = random.nextBoolean();
        int slot = near(0, 1);
        switch (kind) {
            case 0: setLines(); break;
            case 1: setPoint(); break;
            case 2: addChannel(); break;
            case 3: setMode(); break;
            case 4: addNotch(); break;
            case 5: set(); break;
            case 6: case 7: start(); break;
            case 8: is("hold(" + on + ")", program.hold(on), model.hold(on)); break;
            case 9: is("abort()", program.abort(), model.abort()); break;
            case 10: case 11: append(); break;
            case 12: is("faultPosition()", program.faultPosition(), model.faultPosition()); break;
            case 13: is("run()", program.run(), model.run()); break;
            case 14: is("clearText()", program.clearText(), model.clearText()); break;
            case 15: is("undo()", program.undo(), model.undo()); break;
            case 16: is("save(" + slot + ")", program.save(slot), model.save(slot)); break;
            case 17: is("restore(" + slot + ")", program.restore(slot), model.restore(slot)); break;
            default: step(); break;
        }
    }

    private void lookAtChannel() {
        int channel = channel();
        int frequency = frequencyNearLines();
        int property = near(0, 7);
        int place = near(0, 3);
        is("gain(" + channel + ", " + frequency + ")",
                program.gain(channel, frequency), model.gain(channel, frequency));
        is("limit(" + channel + ", " + frequency + ")",
                program.limit(channel, frequency), model.limit(channel, frequency));
        is("channel(" + channel + ", " + property + ")",
                program.channel(channel, property), model.channel(channel, property));
        is("resonance(" + channel + ", " + place + ")",
                program.resonance(channel, place), model.resonance(channel, place));
    }

    private void lookAtLine() {
        int line = line();
        int channel = channel();
        is("frequency(" + line + ")", program.frequency(line), model.frequency(line));
        is("level(" + line + ", " + channel + ")",
                program.level(line, channel), model.level(line, channel));
        is("averaged(" + line + ", " + channel + ")",
                program.averaged(line, channel), model.averaged(line, channel));
        is("controlGain(" + line + ")", program.controlGain(line), model.controlGain(line));
        is("driveAt(" + line + ")", program.driveAt(line), model.driveAt(line));
        is("notchedBy(" + line + ")", program.notchedBy(line), model.notchedBy(line));
    }

    private void lookAhead() {
        int channel = channel();
        int loops = chance(60) ? in(1, 30) : near(1, 300);
        is("loopsLeft()", program.loopsLeft(), model.loopsLeft());
        is("wouldAbort(" + loops + ")", program.wouldAbort(loops), model.wouldAbort(loops));
        is("highest(" + channel + ", " + loops + ")",
                program.highest(channel, loops), model.highest(channel, loops));
    }

    private void lookSomewhere() {
        int property = near(0, 19);
        int frequency = frequencyNearLines();
        is("total(" + property + ")", program.total(property), model.total(property));
        is("target(" + frequency + ")", program.target(frequency), model.target(frequency));
        lookAtChannel();
        lookAtLine();
        if (chance(20)) {
            lookAhead();
        }
    }

    private void lookAtAll() {
        for (int property = -1; property <= 20; property++) {
            is("at the end total(" + property + ")",
                    program.total(property), model.total(property));
        }
        for (int channel = -1; channel <= 6; channel++) {
            for (int property = -1; property <= 8; property++) {
                is("at the end channel(" + channel + ", " + property + ")",
                        program.channel(channel, property), model.channel(channel, property));
            }
            for (int line = -1; line <= 100; line++) {
                is("at the end level(" + line + ", " + channel + ")",
                        program.level(line, channel), model.level(line, channel));
                is("at the end averaged(" + line + ", " + channel + ")",
                        program.averaged(line, channel), model.averaged(line, channel));
            }
        }
        for (int line = -1; line <= 100; line++) {
            is("at the end driveAt(" + line + ")", program.driveAt(line), model.driveAt(line));
            is("at the end notchedBy(" + line + ")",
                    program.notchedBy(line), model.notchedBy(line));
        }
    }

    private void play() {
        // Most runs are made ready first; the others show what comes of starting bare.
        int[] first = {0, 1, 2, 1, 2, 3, 3, 4, 4, 5, 1, 6};
        int made = chance(80) ? first.length : in(0, 5);
        for (int call = 0; call < made; call++) {
            change(first[call]);
        }
        int calmness = in(20, 60);
        for (int call = 0; call < CALLS; call++) {
            // Set-up calls are rare in a calm run, so that it gets far.
            change(chance(calmness) ? 18 : random.nextInt(19));
            lookSomewhere();
        }
        lookAtAll();
    }

    public static void main(String[] args) {
        Due due = new Due("RandomRunsTest");
        for (int seed = 1; seed <= RUNS && due.wrong() < 20; seed++) {
            new RandomRunsTest(due, seed).play();
        }
        due.end();
    }
}
