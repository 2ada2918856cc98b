import java.util.ArrayList;
import java.util.List;

/**
 * The document's words once more, minute by minute and without any thought of speed: what the
 * random runs compare the program with. It shares no code with it.
 */
final class Model {
    static final int NONE = -9;
    private static final int[] LOW = {-90, 60, 0, 1, 0};
    private static final int[] HIGH = {90, 900, 99, 9999, 99};

    private static final class Pin {
        int place;
        boolean stands;

        Pin(int place, boolean stands) {
            this.place = place;
            this.stands = stands;
        }
    }

    private static final class Situation {
        int[] settings = {50, 240, 5, 4000, 0};
        int direction = 0;
        long rest = 0;
        int height = 5000;
        int clock = 0;
        List<Pin> pins = new ArrayList<>();
        List<int[]> ledger = new ArrayList<>();
        List<int[]> readings = new ArrayList<>();

        Situation copy() {
            Situation other = new Situation();
            other.settings = settings.clone();
            other.direction = direction;
            other.rest = rest;
            other.height = height;
            other.clock = clock;
            for (Pin pin : pins) {
                other.pins.add(new Pin(pin.place, pin.stands));
            }
            other.ledger.addAll(ledger);
            other.readings.addAll(readings);
            return other;
        }

        int standing() {
            return (int) pins.stream().filter(pin -> pin.stands).count();
        }

        /** Returns the pins that fell, in order. */
        List<Pin> turn() {
            List<Pin> fallen = new ArrayList<>();
            if (height != 0) {
                rest += 900L * sin(settings[0]);
                long unit = 1000L * settings[1];
                while (rest >= unit) {
                    rest -= unit;
                    direction = direction == 10799 ? 0 : direction + 1;
                    arrive(fallen);
                }
                while (rest < 0) {
                    rest += unit;
                    direction = direction == 0 ? 10799 : direction - 1;
                    arrive(fallen);
                }
                height -= height * settings[2] / 10000 + 1;
                if (height < 0) {
                    height = 0;
                }
                height += settings[4];
                if (height > 9999) {
                    height = 9999;
                }
            }
            clock++;
            return fallen;
        }

        private void arrive(List<Pin> fallen) {
            for (Pin pin : pins) {
                if (pin.place == direction && pin.stands && height >= settings[3]) {
                    pin.stands = false;
                    height = height < 50 ? 0 : height - 50;
                    ledger.add(0, new int[] {pin.place, clock, height});
                    if (ledger.size() > 20) {
                        ledger.remove(20);
                    }
                    fallen.add(pin);
                }
            }
        }

        int turns(int m) {
            int fallen = 0;
            for (int i = 0; i < m; i++) {
                fallen += turn().size();
            }
            return fallen;
        }

        void nudge(int by) {
            direction = (direction + by + 10800) % 10800;
            height -= by < 0 ? -2 * by : 2 * by;
            if (height < 0) {
                height = 0;
            }
            rest = 0;
        }

        void push(int amount) {
            height = height + amount > 9999 ? 9999 : height + amount;
        }

        void set(int what, int v) {
            settings[what] = v;
            if (what == 1) {
                rest = 0;
            }
        }
    }

    private Situation now = new Situation();
    private final List<Situation> remembered = new ArrayList<>();
    private final Situation[] slots = new Situation[2];
    private String text = "";

    private static int sin(int latitude) {
        if (latitude < 0) {
            return -sin(-latitude);
        }
        String[] row = ("0, 87, 174, 259, 342, 423, 500, 574, 643, 707, 766, 819, 866, 906, 940, 966, 985, 996, "
                + "1000").split(", ");
        int e = Integer.parseInt(row[latitude / 5]);
        return latitude % 5 == 0 ? e : e + (Integer.parseInt(row[latitude / 5 + 1]) - e) * (latitude % 5) / 5;
    }

    private static void illegal(boolean wrong) {
        if (wrong) {
            throw new IllegalArgumentException();
        }
    }

    private static void state(boolean wrong) {
        if (wrong) {
            throw new IllegalStateException();
        }
    }

    private static void bounds(boolean wrong) {
        if (wrong) {
            throw new IndexOutOfBoundsException();
        }
    }

    private void remember() {
        remembered.add(now.copy());
        if (remembered.size() > 14) {
            remembered.remove(0);
        }
    }

    int append(int c) {
        illegal(c < 0 || c > 255);
        state(text.length() == 100);
        text += (char) c;
        return text.length();
    }

    int clearText() {
        int length = text.length();
        text = "";
        return length;
    }

    private static List<String> numbers(int from, int to, int digits) {
        List<String> all = new ArrayList<>();
        for (int i = from; i <= to; i++) {
            all.add(String.format("%0" + digits + "d", i));
        }
        return all;
    }

    private static final List<List<String>> HEAD = List.of(List.of("F"), List.of("+", "-"), numbers(0, 90, 2),
            numbers(60, 900, 3), numbers(0, 99, 2), numbers(0, 9999, 4));

    /** Reads one of these at the position; returns how many of its signs are right. */
    private int matched(int at, List<String> allowed) {
        int best = 0;
        for (String word : allowed) {
            int same = 0;
            while (same < word.length() && at + same < text.length() && word.charAt(same) == text.charAt(at + same)) {
                same++;
            }
            best = same > best ? same : best;
        }
        return best;
    }

    int errorPosition() {
        int at = 0;
        for (List<String> allowed : HEAD) {
            int same = matched(at, allowed);
            at += same;
            if (same < allowed.get(0).length()) {
                return at;
            }
        }
        List<String> free = numbers(0, 179, 3);
        for (int pin = 0; pin < 20 && at < text.length(); pin++) {
            if (text.charAt(at) != 'p') {
                return at;
            }
            int same = matched(at + 1, free);
            at += 1 + same;
            if (same < 3) {
                return at;
            }
            free.remove(text.substring(at - 3, at));
        }
        return at < text.length() ? at : NONE;
    }

    int load() {
        state(errorPosition() != NONE);
        now = new Situation();
        now.settings[0] = Integer.parseInt(text.substring(1, 4));
        now.settings[1] = Integer.parseInt(text.substring(4, 7));
        now.settings[2] = Integer.parseInt(text.substring(7, 9));
        now.height = Integer.parseInt(text.substring(9, 13));
        for (int at = 13; at < text.length(); at += 4) {
            now.pins.add(new Pin(60 * Integer.parseInt(text.substring(at + 1, at + 4)), true));
        }
        remembered.clear();
        slots[0] = null;
        slots[1] = null;
        return now.pins.size();
    }

    int about(int what) {
        illegal(what < 0 || what > 12);
        int[] all = {now.settings[0], now.settings[1], now.settings[2], now.settings[3], now.settings[4],
            now.direction, (int) now.rest, now.height, now.clock, now.pins.size(), now.standing(),
            now.ledger.size(), now.readings.size()};
        return all[what];
    }

    int pin(int k, int what) {
        bounds(k < 0 || k >= now.pins.size());
        illegal(what < 0 || what > 2);
        Pin pin = now.pins.get(k);
        int on = pin.place - now.direction;
        return what == 0 ? pin.place : what == 1 ? (pin.stands ? 1 : 0) : on < 0 ? on + 10800 : on;
    }

    int hit(int j, int what) {
        illegal(j < 0 || what < 0 || what > 2);
        return j < now.ledger.size() ? now.ledger.get(j)[what] : NONE;
    }

    int reading(int i, int what) {
        bounds(i < 0 || i >= now.readings.size());
        illegal(what < 0 || what > 2);
        return now.readings.get(i)[what];
    }

    int sine(int latitude) {
        illegal(latitude < -90 || latitude > 90);
        return sin(latitude);
    }

    int swing(int m) {
        illegal(m < 1 || m > 500);
        remember();
        return now.turns(m);
    }

    private static boolean fits(int what, int v) {
        return what >= 0 && what <= 4 && LOW[what] <= v && v <= HIGH[what];
    }

    int set(int what, int v) {
        illegal(!fits(what, v));
        remember();
        int before = now.settings[what];
        now.set(what, v);
        return before;
    }

    int push(int amount) {
        illegal(amount < 1 || amount > 9999);
        remember();
        now.push(amount);
        return now.height;
    }

    int nudge(int by) {
        illegal(by < -600 || by > 600);
        remember();
        now.nudge(by);
        return now.direction;
    }

    int addPin(int place) {
        illegal(place < 0 || place > 10799);
        state(now.pins.size() == 40);
        for (Pin pin : now.pins) {
            state(pin.place == place);
        }
        remember();
        now.pins.add(new Pin(place, true));
        return now.pins.size() - 1;
    }

    int removePin(int k) {
        bounds(k < 0 || k >= now.pins.size());
        remember();
        return now.pins.remove(k).place;
    }

    int raise() {
        remember();
        int fallen = now.pins.size() - now.standing();
        now.pins.forEach(pin -> pin.stands = true);
        return fallen;
    }

    int read() {
        state(now.readings.size() == 20);
        remember();
        now.readings.add(new int[] {now.clock, now.direction, now.height});
        return now.readings.size() - 1;
    }

    int undo() {
        state(remembered.isEmpty());
        now = remembered.remove(remembered.size() - 1);
        return remembered.size();
    }

    private void pair(int i, int j) {
        bounds(i < 0 || i >= now.readings.size() || j < 0 || j >= now.readings.size());
        illegal(j <= i);
    }

    int move(int i, int j) {
        pair(i, j);
        return (now.readings.get(j)[1] - now.readings.get(i)[1] + 10800) % 10800;
    }

    int time(int i, int j) {
        int move = move(i, j);
        int latitude = now.settings[0];
        if (latitude == 0) {
            return NONE;
        }
        if (latitude < 0) {
            return (int) ((move == 0 ? 0 : 10800 - move) * 60000L / (900 * sin(-latitude)));
        }
        return (int) (move * 60000L / (900 * sin(latitude)));
    }

    int latitudeFrom(int i, int j) {
        pair(i, j);
        int[] from = now.readings.get(i);
        int[] to = now.readings.get(j);
        int best = 999;
        long bestFar = 99999;
        for (int latitude = -90; latitude <= 90; latitude++) {
            double exact = 900.0 * sin(latitude) * (to[0] - from[0]) / (1000.0 * now.settings[1]);
            long on = (long) Math.floor(exact);
            long expected = (((from[1] + on) % 10800) + 10800) % 10800;
            long far = expected > to[1] ? expected - to[1] : to[1] - expected;
            far = far > 5400 ? 10800 - far : far;
            int size = latitude < 0 ? -latitude : latitude;
            int bestSize = best < 0 ? -best : best;
            if (far < bestFar || far == bestFar && (size < bestSize || size == bestSize && latitude > 0)) {
                best = latitude;
                bestFar = far;
            }
        }
        return best;
    }

    int ahead(int m, int what) {
        illegal(m < 0 || m > 500 || what < 0 || what > 3);
        Situation then = now.copy();
        int fallen = then.turns(m);
        return what == 0 ? then.direction : what == 1 ? then.height : what == 2 ? fallen : then.standing();
    }

    int fallsAfter(int k) {
        bounds(k < 0 || k >= now.pins.size());
        Situation then = now.copy();
        for (int turns = 0; turns <= 2000; turns++) {
            if (!then.pins.get(k).stands) {
                return turns;
            }
            then.turn();
        }
        return NONE;
    }

    int lowAfter(int height) {
        illegal(height < 0 || height > 9999);
        Situation then = now.copy();
        for (int turns = 0; turns <= 3000; turns++) {
            if (then.height <= height) {
                return turns;
            }
            then.turn();
        }
        return NONE;
    }

    int pushFor(int m) {
        illegal(m < 1 || m > 200);
        for (int amount = 0; amount <= 9900; amount += 100) {
            Situation then = now.copy();
            then.push(amount);
            boolean enough = true;
            for (int i = 0; i < m; i++) {
                then.turn();
                enough = enough && then.height >= then.settings[3];
            }
            if (enough) {
                return amount;
            }
        }
        return NONE;
    }

    int freeStart(int m) {
        illegal(m < 1 || m > 200);
        for (int degree = 0; degree < 180; degree++) {
            Situation then = now.copy();
            then.direction = 60 * degree;
            if (then.turns(m) == 0) {
                return 60 * degree;
            }
        }
        return NONE;
    }

    int next() {
        Situation then = now.copy();
        for (int i = 0; i < 2000; i++) {
            List<Pin> fallen = then.turn();
            if (!fallen.isEmpty()) {
                return then.pins.indexOf(fallen.get(0));
            }
        }
        return NONE;
    }

    int runScript(int n, long script) {
        illegal(n < 1 || n > 3 || script < 0 || Long.toString(script).length() > 5 * n);
        String digits = String.format("%0" + 5 * n + "d", script);
        Situation then = now.copy();
        for (int index = 0; index < n; index++) {
            if (!runs(then, digits.substring(5 * index, 5 * index + 5))) {
                return index;
            }
        }
        return NONE;
    }

    private static boolean runs(Situation then, String group) {
        int w = group.charAt(1) - '0';
        int xyz = Integer.parseInt(group.substring(2));
        if (group.matches("10...")) {
            boolean right = xyz >= 1 && xyz <= 500;
            then.turns(right ? xyz : 0);
            return right;
        }
        if (group.matches("2[01234]...")) {
            boolean right = fits(w, xyz);
            then.set(w, right ? xyz : then.settings[w]);
            return right;
        }
        if (group.matches("30...")) {
            then.push(xyz);
            return xyz >= 1;
        }
        if (group.matches("4[01]...")) {
            then.nudge(xyz > 600 ? 0 : w == 1 ? -xyz : xyz);
            return xyz <= 600;
        }
        if (group.equals("50000")) {
            then.pins.forEach(pin -> pin.stands = true);
            return true;
        }
        if (group.matches("600..")) {
            return then.standing() == xyz;
        }
        if (group.matches("7....")) {
            return then.height >= Integer.parseInt(group.substring(1));
        }
        if (group.matches("80...")) {
            return then.direction >= 60 * xyz && then.direction <= 60 * xyz + 59;
        }
        return group.matches("900..") && then.ledger.size() == xyz;
    }

    int simulate(long seed, int m) {
        illegal(m < 1 || m > 60);
        Situation then = now.copy();
        long x = seed;
        int fallen = 0;
        for (int round = 0; round < m; round++) {
            x = x * 6364136223846793005L + 1442695040888963407L;
            int r = (int) (x >>> 33);
            if (r % 8 == 0) {
                then.nudge(r / 8 % 121 - 60);
            }
            if (r % 8 == 1) {
                then.push(1 + r / 8 % 500);
            }
            fallen += then.turns(1 + r / 1024 % 20);
        }
        return 10000 * fallen + then.direction;
    }

    int save(int slot) {
        bounds(slot != 0 && slot != 1);
        slots[slot] = now.copy();
        return now.clock;
    }

    int restore(int slot) {
        bounds(slot != 0 && slot != 1);
        state(slots[slot] == null);
        now = slots[slot].copy();
        remembered.clear();
        return now.clock;
    }
}
