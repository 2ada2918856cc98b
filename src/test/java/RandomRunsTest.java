import java.util.Random;

/** All promises: runs of 512 calls, as many as an object is for, each answer compared with the model's. */
public final class RandomRunsTest {
    private static final int RUNS = 400;
    private static final int CALLS = 512;
    private static final int[] EDGES = {Integer.MIN_VALUE, -601, -91, -1, 0, 1, 2, 12, 20, 40, 60, 90, 200, 500, 501,
        600, 9999, 10799, 10800, Integer.MAX_VALUE};
    private static final String SIGNS = "F+-p0123456789 x";

    private final Check check = new Check();
    private final Random random;
    private final int run;
    private final FoucaultKeeper keeper = new FoucaultKeeper();
    private final Model model = new Model();
    private int calls = 0;

    private RandomRunsTest(int run) {
        this.run = run;
        this.random = new Random(run);
    }

    public static void main(String[] args) {
        for (int run = 1; run <= RUNS; run++) {
            RandomRunsTest test = new RandomRunsTest(run);
            test.play();
            test.check.end();
        }
    }

    private void play() {
        boolean loads = random.nextInt(4) > 0;
        int looks = random.nextInt(4);
        while (calls < CALLS) {
            if (loads && (calls == 0 || random.nextInt(100) == 0)) {
                write();
                same("load()", keeper::load, model::load);
            }
            if (random.nextInt(3) > 0) {
                act();
            } else {
                ask();
            }
            for (int i = 0; i < looks; i++) {
                look();
            }
        }
    }

    private void same(String call, Check.Call got, Check.Call due) {
        if (calls < CALLS) {
            calls++;
            check.due("run " + run + ": " + call, Check.answer(got), Check.answer(due));
        }
    }

    /** A number from low to high, or now and then one beside them or any edge. */
    private int number(int low, int high) {
        int kind = random.nextInt(40);
        if (kind == 0) {
            return EDGES[random.nextInt(EDGES.length)];
        }
        if (kind == 1) {
            return random.nextBoolean() ? low - 1 : high + 1;
        }
        if (kind == 2) {
            return random.nextBoolean() ? low : high;
        }
        return low + random.nextInt(high - low + 1);
    }

    private void write() {
        same("clearText()", keeper::clearText, model::clearText);
        StringBuilder text = new StringBuilder(String.format("F%c%02d%03d%02d%04d", random.nextBoolean() ? '+' : '-',
                random.nextInt(91), 60 + random.nextInt(random.nextBoolean() ? 60 : 841), random.nextInt(100),
                random.nextInt(10000)));
        int pins = random.nextInt(22);
        int near = random.nextBoolean() ? 40 : 182;
        for (int k = 0; k < pins; k++) {
            text.append(String.format("p%03d", random.nextInt(5) == 0 ? random.nextInt(near) : k * 7 % 180));
        }
        if (random.nextInt(4) == 0) {
            text.setCharAt(random.nextInt(text.length()), SIGNS.charAt(random.nextInt(SIGNS.length())));
        }
        for (int i = 0; i < text.length(); i++) {
            int c = text.charAt(i);
            same("append(" + c + ")", () -> keeper.append(c), () -> model.append(c));
            if (random.nextInt(5) == 0) {
                same("errorPosition()", keeper::errorPosition, model::errorPosition);
            }
        }
        same("errorPosition()", keeper::errorPosition, model::errorPosition);
    }

    private void act() {
        int a = random.nextInt(6) == 0 ? number(1, 500) : number(1, 40);
        switch (random.nextInt(14)) {
            case 0: case 1: case 2:
                same("swing(" + a + ")", () -> keeper.swing(a), () -> model.swing(a));
                break;
            case 3:
                set();
                break;
            case 4:
                int amount = random.nextInt(3) == 0 ? number(1, 9999) : number(1, 900);
                same("push(" + amount + ")", () -> keeper.push(amount), () -> model.push(amount));
                break;
            case 5:
                int by = random.nextBoolean() ? number(-600, 600) : number(-20, 20);
                same("nudge(" + by + ")", () -> keeper.nudge(by), () -> model.nudge(by));
                break;
            case 6: case 7:
                int place = random.nextInt(4) == 0 ? number(0, 10799)
                        : (model.about(5) + number(-60, 300) + 10800) % 10800;
                same("addPin(" + place + ")", () -> keeper.addPin(place), () -> model.addPin(place));
                break;
            case 8:
                int k = number(0, Math.max(0, model.about(9) - 1));
                same("removePin(" + k + ")", () -> keeper.removePin(k), () -> model.removePin(k));
                break;
            case 9:
                same("raise()", keeper::raise, model::raise);
                break;
            case 10:
                same("read()", keeper::read, model::read);
                break;
            case 11:
                same("undo()", keeper::undo, model::undo);
                break;
            case 12:
                int slot = number(0, 1);
                same("save(" + slot + ")", () -> keeper.save(slot), () -> model.save(slot));
                break;
            default:
                int from = number(0, 1);
                if (random.nextInt(4) == 0) {
                    same("restore(" + from + ")", () -> keeper.restore(from), () -> model.restore(from));
                }
        }
    }

    private void set() {
        int what = number(0, 4);
        int[] low = {-90, 60, 0, 1, 0};
        int[] high = {90, random.nextBoolean() ? 90 : 900, random.nextBoolean() ? 9 : 99,
            random.nextBoolean() ? 900 : 9999, random.nextBoolean() ? 20 : 99};
        int v = what < 0 || what > 4 ? number(0, 100) : number(low[what], high[what]);
        same("set(" + what + ", " + v + ")", () -> keeper.set(what, v), () -> model.set(what, v));
    }

    private void ask() {
        int m = random.nextInt(3) == 0 ? number(1, 200) : number(1, 30);
        int what = number(0, 3);
        int i = number(0, Math.max(1, model.about(12) - 1));
        int j = number(Math.max(0, Math.min(i, 19)) / 2, Math.max(20, model.about(12)) - 1);
        int k = number(0, Math.max(0, model.about(9) - 1));
        int height = random.nextBoolean() ? number(0, 9999) : Math.max(0, model.about(7) - number(0, 300));
        switch (random.nextInt(12)) {
            case 0:
                same("move(" + i + ", " + j + ")", () -> keeper.move(i, j), () -> model.move(i, j));
                break;
            case 1:
                same("time(" + i + ", " + j + ")", () -> keeper.time(i, j), () -> model.time(i, j));
                break;
            case 2:
                same("latitudeFrom(" + i + ", " + j + ")", () -> keeper.latitudeFrom(i, j),
                        () -> model.latitudeFrom(i, j));
                break;
            case 3:
                same("ahead(" + m + ", " + what + ")", () -> keeper.ahead(m, what), () -> model.ahead(m, what));
                break;
            case 4:
                same("fallsAfter(" + k + ")", () -> keeper.fallsAfter(k), () -> model.fallsAfter(k));
                break;
            case 5:
                same("lowAfter(" + height + ")", () -> keeper.lowAfter(height), () -> model.lowAfter(height));
                break;
            case 6:
                same("pushFor(" + m + ")", () -> keeper.pushFor(m), () -> model.pushFor(m));
                break;
            case 7:
                same("freeStart(" + m + ")", () -> keeper.freeStart(m), () -> model.freeStart(m));
                break;
            case 8:
                same("next()", keeper::next, model::next);
                break;
            case 9:
                long seed = random.nextLong();
                int rounds = number(1, 60);
                same("simulate(" + seed + ", " + rounds + ")", () -> keeper.simulate(seed, rounds),
                        () -> model.simulate(seed, rounds));
                break;
            default:
                script();
        }
    }

    private void script() {
        int n = number(1, 3);
        long script = 0;
        int groups = random.nextInt(20) == 0 ? random.nextInt(4) : Math.max(1, Math.min(3, n));
        for (int i = 0; i < groups; i++) {
            script = 100000 * script + group();
        }
        long whole = random.nextInt(40) == 0 ? random.nextLong() : script;
        same("runScript(" + n + ", " + whole + ")", () -> keeper.runScript(n, whole), () -> model.runScript(n, whole));
    }

    private int group() {
        switch (random.nextInt(11)) {
            case 0: case 1: return 10000 + random.nextInt(random.nextInt(4) == 0 ? 1100 : 60);
            case 2: return 20000 + 1000 * random.nextInt(6) + random.nextInt(random.nextBoolean() ? 100 : 1000);
            case 3: return 30000 + random.nextInt(random.nextInt(4) == 0 ? 1100 : 1000);
            case 4: return 40000 + random.nextInt(2200);
            case 5: return 50000 + (random.nextInt(4) == 0 ? random.nextInt(1100) : 0);
            case 6: return 60000 + Math.max(0, model.about(10) - random.nextInt(3));
            case 7: return 70000 + Math.max(0, model.about(7) - random.nextInt(200));
            case 8: return 80000 + model.about(5) / 60 + random.nextInt(2);
            case 9: return 90000 + model.about(11) + random.nextInt(2);
            default: return random.nextInt(100000);
        }
    }

    private void look() {
        int k = number(0, Math.max(0, model.about(9) - 1));
        int j = number(0, 19);
        int i = number(0, Math.max(0, model.about(12) - 1));
        int what = number(0, 2);
        switch (random.nextInt(8)) {
            case 0:
                same("pin(" + k + ", " + what + ")", () -> keeper.pin(k, what), () -> model.pin(k, what));
                break;
            case 1:
                same("hit(" + j + ", " + what + ")", () -> keeper.hit(j, what), () -> model.hit(j, what));
                break;
            case 2:
                same("reading(" + i + ", " + what + ")", () -> keeper.reading(i, what), () -> model.reading(i, what));
                break;
            case 3:
                int latitude = number(-90, 90);
                same("sine(" + latitude + ")", () -> keeper.sine(latitude), () -> model.sine(latitude));
                break;
            default:
                int w = number(0, 12);
                same("about(" + w + ")", () -> keeper.about(w), () -> model.about(w));
        }
    }
}
