/**
 * The keeper of a long pendulum that shows how the earth turns. The promises that it holds are
 * numbered in the project's document; the numbers stand at the methods.
 */
public final class FoucaultKeeper {
    public static final int NONE = -9;

    /** All directions, in minutes: a swing goes both ways, so half a circle is enough. */
    private static final int ROUND = 10800;
    private static final int MINUTES_OF_DEGREE = 60;

    private static final int LATITUDE = 0;
    private static final int TURNS_IN_HOUR = 1;
    private static final int DRAG = 2;
    private static final int REACH = 3;
    private static final int DRIVE = 4;
    private static final int[] LEAST_SETTING = {-90, 60, 0, 1, 0};
    private static final int[] MOST_SETTING = {90, 900, 99, 9999, 99};
    private static final int[] FIRST_SETTING = {50, 240, 5, 4000, 0};

    private static final int FIRST_HEIGHT = 5000;
    private static final int MOST_HEIGHT = 9999;
    private static final int HEIGHT_LOST_IN_HIT = 50;
    private static final int HEIGHT_LOST_IN_NUDGE = 2;

    private static final int MOST_TURNS = 500;
    private static final int MOST_PUSH = 9999;
    private static final int MOST_NUDGE = 600;
    private static final int MOST_PINS = 40;
    private static final int MOST_HITS = 20;
    private static final int MOST_READINGS = 20;
    private static final int MOST_REMEMBERED = 14;
    private static final int SAVE_SLOTS = 2;

    /** Hits and readings are rows of three numbers, one row behind the other in one array. */
    private static final int ROW = 3;

    private static final int MOST_TURNS_TO_FALL = 2000;
    private static final int MOST_TURNS_TO_LOW = 3000;
    private static final int MOST_TURNS_OF_SEARCH = 200;
    private static final int PUSH_STEP = 100;
    private static final int MOST_PUSH_FOUND = 9900;
    private static final int START_STEP = 60;
    private static final int MOST_COMMANDS = 3;
    private static final int GROUP = 100000;
    private static final int MOST_ROUNDS = 60;

    /** Thousandths, for the latitudes 0, 5, 10 and so on up to 90. */
    private static final int[] SINES = {
        0, 87, 174, 259, 342, 423, 500, 574, 643, 707,
        766, 819, 866, 906, 940, 966, 985, 996, 1000
    };

    private final Text text = new Text();
    private final State now = new State();
    private final Motion motion = new Motion(now);
    private final History history = new History();
    private final State[] slots = new State[SAVE_SLOTS];
    private final boolean[] slotFilled = new boolean[SAVE_SLOTS];

    /** The one copy on which everything is tried, so that no forecast makes anything new. */
    private final State trial = new State();
    private final Motion trialMotion = new Motion(trial);

    /** Promise 1. */
    public FoucaultKeeper() {
        for (int slot = 0; slot < SAVE_SLOTS; slot++) {
            slots[slot] = new State();
        }
    }

    // ---- text

    /** Promise 2. */
    public int append(int c) throws IllegalArgumentException, IllegalStateException {
        if (c < 0 || c > 255) {
            throw new IllegalArgumentException("the character code is not 0 to 255");
        }
        if (text.length >= Text.MOST_SIGNS) {
            throw new IllegalStateException("the text is full");
        }
        text.signs[text.length] = (char) c;
        text.length++;
        return text.length;
    }

    /** Promise 3. */
    public int clearText() {
        int before = text.length;
        text.length = 0;
        return before;
    }

    /** Promise 4. */
    public int errorPosition() {
        return text.firstError();
    }

    /** Promise 5. */
    public int load() throws IllegalStateException {
        if (text.firstError() != NONE) {
            throw new IllegalStateException("the text has an error");
        }
        now.begin();
        now.settings[LATITUDE] = text.latitude();
        now.settings[TURNS_IN_HOUR] = text.turnsInHour();
        now.settings[DRAG] = text.drag();
        now.height = text.height();
        int pins = text.pins();
        for (int k = 0; k < pins; k++) {
            now.putPin(text.placeOfPin(k));
        }
        history.forget();
        for (int slot = 0; slot < SAVE_SLOTS; slot++) {
            slotFilled[slot] = false;
        }
        return now.pins;
    }

    // ---- what there is

    /** Promise 6. */
    public int about(int what) throws IllegalArgumentException {
        if (what < 0 || what > 12) {
            throw new IllegalArgumentException("what is not 0 to 12");
        }
        if (what < FIRST_SETTING.length) {
            return now.settings[what];
        }
        switch (what) {
            case 5: return now.direction;
            case 6: return now.rest;
            case 7: return now.height;
            case 8: return now.clock;
            case 9: return now.pins;
            case 10: return now.standing();
            case 11: return now.hits;
            default: return now.readings;
        }
    }

    /** Promise 7. */
    public int pin(int k, int what) throws IndexOutOfBoundsException, IllegalArgumentException {
        checkPin(k);
        if (what < 0 || what > 2) {
            throw new IllegalArgumentException("what is not 0 to 2");
        }
        switch (what) {
            case 0: return now.places[k];
            case 1: return now.stands[k];
            default: return around(now.places[k] - now.direction);
        }
    }

    /** Promise 8. */
    public int hit(int j, int what) throws IllegalArgumentException {
        if (j < 0 || what < 0 || what > 2) {
            throw new IllegalArgumentException("j is negative, or what is not 0 to 2");
        }
        if (j >= now.hits) {
            return NONE;
        }
        return now.ledger[ROW * now.rowOfHit(j) + what];
    }

    /** Promise 9. */
    public int reading(int i, int what) throws IndexOutOfBoundsException, IllegalArgumentException {
        checkReading(i);
        if (what < 0 || what > 2) {
            throw new IllegalArgumentException("what is not 0 to 2");
        }
        return now.readingRows[ROW * i + what];
    }

    /** Promise 10. */
    public int sine(int latitude) throws IllegalArgumentException {
        if (!settingFits(LATITUDE, latitude)) {
            throw new IllegalArgumentException("the latitude is not -90 to 90");
        }
        return sineOf(latitude);
    }

    // ---- actions

    /** Promise 11. */
    public int swing(int m) throws IllegalArgumentException {
        if (!turnsFit(m)) {
            throw new IllegalArgumentException("the number of turns is not 1 to 500");
        }
        history.remember(now);
        motion.begin();
        return motion.turns(m);
    }

    /** Promise 12. */
    public int set(int what, int v) throws IllegalArgumentException {
        if (!settingFits(what, v)) {
            throw new IllegalArgumentException("no such setting, or its value is out of range");
        }
        history.remember(now);
        int before = now.settings[what];
        now.changeSetting(what, v);
        return before;
    }

    /** Promise 13. */
    public int push(int amount) throws IllegalArgumentException {
        if (!pushFits(amount)) {
            throw new IllegalArgumentException("the amount is not 1 to 9999");
        }
        history.remember(now);
        now.gainHeight(amount);
        return now.height;
    }

    /** Promise 14. */
    public int nudge(int by) throws IllegalArgumentException {
        if (!nudgeFits(by)) {
            throw new IllegalArgumentException("the nudge is not -600 to 600");
        }
        history.remember(now);
        now.turnAside(by);
        return now.direction;
    }

    /** Promise 15. */
    public int addPin(int place) throws IllegalArgumentException, IllegalStateException {
        if (place < 0 || place >= ROUND) {
            throw new IllegalArgumentException("the place is not 0 to 10799");
        }
        if (now.pins >= MOST_PINS || now.pinAt(place) != NONE) {
            throw new IllegalStateException("there are 40 pins, or one is at this place");
        }
        history.remember(now);
        now.putPin(place);
        return now.pins - 1;
    }

    /** Promise 16. */
    public int removePin(int k) throws IndexOutOfBoundsException {
        checkPin(k);
        history.remember(now);
        int place = now.places[k];
        now.takePin(k);
        return place;
    }

    /** Promise 17. */
    public int raise() {
        history.remember(now);
        int fallen = now.pins - now.standing();
        now.standAllPins();
        return fallen;
    }

    /** Promise 18. */
    public int read() throws IllegalStateException {
        if (now.readings >= MOST_READINGS) {
            throw new IllegalStateException("there are 20 readings");
        }
        history.remember(now);
        now.noteReading();
        return now.readings - 1;
    }

    /** Promise 19. */
    public int undo() throws IllegalStateException {
        if (history.count < 1) {
            throw new IllegalStateException("no state is remembered");
        }
        history.takeBack(now);
        return history.count;
    }

    // ---- readings

    /** Promise 20. */
    public int move(int i, int j) throws IndexOutOfBoundsException, IllegalArgumentException {
        checkReadings(i, j);
        return now.moveBetween(i, j);
    }

    /** Promise 21. */
    public int time(int i, int j) throws IndexOutOfBoundsException, IllegalArgumentException {
        checkReadings(i, j);
        int latitude = now.settings[LATITUDE];
        int sine = sineOf(Math.abs(latitude));
        if (sine == 0) {
            return NONE;
        }
        int way = now.moveBetween(i, j);
        if (latitude < 0) {
            way = around(-way);
        }
        return way * 60000 / (900 * sine);
    }

    /** Promise 22. */
    public int latitudeFrom(int i, int j) throws IndexOutOfBoundsException, IllegalArgumentException {
        checkReadings(i, j);
        int best = 0;
        int bestDistance = ROUND;
        for (int size = 0; size <= MOST_SETTING[LATITUDE]; size++) {
            int distance = now.distanceFromExpected(i, j, size);
            if (distance < bestDistance) {
                bestDistance = distance;
                best = size;
            }
            distance = now.distanceFromExpected(i, j, -size);
            if (distance < bestDistance) {
                bestDistance = distance;
                best = -size;
            }
        }
        return best;
    }

    // ---- forecasts

    /** Promise 23. */
    public int ahead(int m, int what) throws IllegalArgumentException {
        if (m < 0 || m > MOST_TURNS || what < 0 || what > 3) {
            throw new IllegalArgumentException("m is not 0 to 500, or what is not 0 to 3");
        }
        startTrial();
        int fallen = trialMotion.turns(m);
        switch (what) {
            case 0: return trial.direction;
            case 1: return trial.height;
            case 2: return fallen;
            default: return trial.standing();
        }
    }

    /** Promise 24. */
    public int fallsAfter(int k) throws IndexOutOfBoundsException {
        checkPin(k);
        startTrial();
        for (int turns = 0; turns <= MOST_TURNS_TO_FALL; turns++) {
            if (trial.stands[k] == 0) {
                return turns;
            }
            trialMotion.turn();
        }
        return NONE;
    }

    /** Promise 25. */
    public int lowAfter(int height) throws IllegalArgumentException {
        if (height < 0 || height > MOST_HEIGHT) {
            throw new IllegalArgumentException("the height is not 0 to 9999");
        }
        startTrial();
        for (int turns = 0; turns <= MOST_TURNS_TO_LOW; turns++) {
            if (trial.height <= height) {
                return turns;
            }
            trialMotion.turn();
        }
        return NONE;
    }

    /** Promise 26. */
    public int pushFor(int m) throws IllegalArgumentException {
        checkTurnsOfSearch(m);
        // Each push is tried: a higher swing can hit more pins and so end lower than a lower one.
        for (int amount = 0; amount <= MOST_PUSH_FOUND; amount += PUSH_STEP) {
            startTrial();
            trial.gainHeight(amount);
            if (staysInReach(m)) {
                return amount;
            }
        }
        return NONE;
    }

    /** Promise 27. */
    public int freeStart(int m) throws IllegalArgumentException {
        checkTurnsOfSearch(m);
        for (int start = 0; start < ROUND; start += START_STEP) {
            trial.copyFrom(now);
            trial.direction = start;
            trialMotion.begin();
            if (firstFall(m) == NONE) {
                return start;
            }
        }
        return NONE;
    }

    /** Promise 28. */
    public int next() {
        startTrial();
        return firstFall(MOST_TURNS_TO_FALL);
    }

    // ---- scripts, simulations

    /** Promise 29. */
    public int runScript(int n, long script) throws IllegalArgumentException {
        if (n < 1 || n > MOST_COMMANDS) {
            throw new IllegalArgumentException("the number of commands is not 1 to 3");
        }
        if (script < 0 || withoutGroups(script, n) > 0) {
            throw new IllegalArgumentException("the script is negative or too long");
        }
        trial.copyFrom(now);
        for (int index = 0; index < n; index++) {
            int group = (int) (withoutGroups(script, n - 1 - index) % GROUP);
            if (!commandSucceeds(group)) {
                return index;
            }
        }
        return NONE;
    }

    /** Promise 30. */
    public int simulate(long seed, int m) throws IllegalArgumentException {
        if (m < 1 || m > MOST_ROUNDS) {
            throw new IllegalArgumentException("the number of rounds is not 1 to 60");
        }
        trial.copyFrom(now);
        long x = seed;
        int fallen = 0;
        for (int round = 0; round < m; round++) {
            x = x * 6364136223846793005L + 1442695040888963407L;
            int r = (int) (x >>> 33);
            if (r % 8 == 0) {
                trial.turnAside(r / 8 % 121 - 60);
            } else if (r % 8 == 1) {
                trial.gainHeight(1 + r / 8 % 500);
            }
            trialMotion.begin();
            fallen += trialMotion.turns(1 + r / 1024 % 20);
        }
        return 10000 * fallen + trial.direction;
    }

    // ---- save slots

    /** Promise 31. */
    public int save(int slot) throws IndexOutOfBoundsException {
        checkSlot(slot);
        slots[slot].copyFrom(now);
        slotFilled[slot] = true;
        return now.clock;
    }

    /** Promise 32. */
    public int restore(int slot) throws IndexOutOfBoundsException, IllegalStateException {
        checkSlot(slot);
        if (!slotFilled[slot]) {
            throw new IllegalStateException("nothing has been saved in this slot");
        }
        now.copyFrom(slots[slot]);
        history.forget();
        return now.clock;
    }

    // ---- what arguments may be

    private void checkPin(int k) {
        if (k < 0 || k >= now.pins) {
            throw new IndexOutOfBoundsException("there is no such pin");
        }
    }

    private void checkReading(int i) {
        if (i < 0 || i >= now.readings) {
            throw new IndexOutOfBoundsException("there is no such reading");
        }
    }

    private void checkReadings(int i, int j) {
        checkReading(i);
        checkReading(j);
        if (j <= i) {
            throw new IllegalArgumentException("the second reading is not later");
        }
    }

    private static void checkSlot(int slot) {
        if (slot < 0 || slot >= SAVE_SLOTS) {
            throw new IndexOutOfBoundsException("there is no such save slot");
        }
    }

    private static void checkTurnsOfSearch(int m) {
        if (m < 1 || m > MOST_TURNS_OF_SEARCH) {
            throw new IllegalArgumentException("the number of turns is not 1 to 200");
        }
    }

    private static boolean turnsFit(int m) {
        return m >= 1 && m <= MOST_TURNS;
    }

    private static boolean pushFits(int amount) {
        return amount >= 1 && amount <= MOST_PUSH;
    }

    private static boolean nudgeFits(int by) {
        return by >= -MOST_NUDGE && by <= MOST_NUDGE;
    }

    private static boolean settingFits(int what, int v) {
        if (what < 0 || what >= FIRST_SETTING.length) {
            return false;
        }
        return v >= LEAST_SETTING[what] && v <= MOST_SETTING[what];
    }

    // ---- numbers

    private static int around(int direction) {
        int left = direction % ROUND;
        return left < 0 ? left + ROUND : left;
    }

    private static int sineOf(int latitude) {
        int size = Math.abs(latitude);
        int entry = size / 5;
        int sine;
        if (entry >= SINES.length - 1) {
            // Nothing is behind the last entry, and nothing is wanted there: it is that of 90.
            sine = SINES[SINES.length - 1];
        } else {
            sine = SINES[entry] + (SINES[entry + 1] - SINES[entry]) * (size % 5) / 5;
        }
        return latitude < 0 ? -sine : sine;
    }

    /** Tests the divisor, so that nobody has to look up that no setting makes it 0. */
    private static long divideDown(long number, long divisor) {
        return divisor > 0 ? Math.floorDiv(number, divisor) : 0;
    }

    // ---- trials

    private void startTrial() {
        trial.copyFrom(now);
        trialMotion.begin();
    }

    private boolean staysInReach(int m) {
        for (int turns = 0; turns < m; turns++) {
            trialMotion.turn();
            if (trial.height < trial.settings[REACH]) {
                return false;
            }
        }
        return true;
    }

    private int firstFall(int m) {
        for (int turns = 0; turns < m; turns++) {
            if (trialMotion.turn() > 0) {
                return trialMotion.firstFallen;
            }
        }
        return NONE;
    }

    private static long withoutGroups(long script, int groups) {
        long rest = script;
        for (int i = 0; i < groups; i++) {
            rest /= GROUP;
        }
        return rest;
    }

    /** Carries one command out on the trial; one that fails leaves it as it is. */
    private boolean commandSucceeds(int group) {
        int second = group / 1000 % 10;
        int number = group % 1000;
        switch (group / 10000) {
            case 1: return second == 0 && trialSwings(number);
            case 2: return trialSets(second, number);
            case 3: return second == 0 && trialIsPushed(number);
            case 4: return second <= 1 && trialIsNudged(second == 0 ? number : -number);
            case 5: return second == 0 && number == 0 && trialRaises();
            case 6: return second == 0 && number == trial.standing();
            case 7: return trial.height >= second * 1000 + number;
            case 8: return second == 0 && trial.direction / MINUTES_OF_DEGREE == number;
            case 9: return second == 0 && number == trial.hits;
            default: return false;
        }
    }

    private boolean trialSwings(int m) {
        if (!turnsFit(m)) {
            return false;
        }
        trialMotion.begin();
        trialMotion.turns(m);
        return true;
    }

    private boolean trialSets(int what, int v) {
        if (!settingFits(what, v)) {
            return false;
        }
        trial.changeSetting(what, v);
        return true;
    }

    private boolean trialIsPushed(int amount) {
        if (!pushFits(amount)) {
            return false;
        }
        trial.gainHeight(amount);
        return true;
    }

    private boolean trialIsNudged(int by) {
        if (!nudgeFits(by)) {
            return false;
        }
        trial.turnAside(by);
        return true;
    }

    private boolean trialRaises() {
        trial.standAllPins();
        return true;
    }

    /** All that actions change and that undo and the save slots bring back. */
    private static final class State {
        final int[] settings = new int[5];
        int direction;
        int rest;
        int height;
        int clock;
        int pins;
        final int[] places = new int[MOST_PINS];
        /** 1 for a pin that stands, 0 for one that has fallen. */
        final int[] stands = new int[MOST_PINS];
        int hits;
        /** The row of the latest hit; the rows are used round and round. */
        int latestHit;
        final int[] ledger = new int[ROW * MOST_HITS];
        int readings;
        final int[] readingRows = new int[ROW * MOST_READINGS];

        State() {
            begin();
        }

        void begin() {
            System.arraycopy(FIRST_SETTING, 0, settings, 0, settings.length);
            direction = 0;
            rest = 0;
            height = FIRST_HEIGHT;
            clock = 0;
            pins = 0;
            hits = 0;
            latestHit = 0;
            readings = 0;
        }

        void copyFrom(State other) {
            System.arraycopy(other.settings, 0, settings, 0, settings.length);
            direction = other.direction;
            rest = other.rest;
            height = other.height;
            clock = other.clock;
            pins = other.pins;
            System.arraycopy(other.places, 0, places, 0, places.length);
            System.arraycopy(other.stands, 0, stands, 0, stands.length);
            hits = other.hits;
            latestHit = other.latestHit;
            System.arraycopy(other.ledger, 0, ledger, 0, ledger.length);
            readings = other.readings;
            System.arraycopy(other.readingRows, 0, readingRows, 0, readingRows.length);
        }

        int unit() {
            return 1000 * settings[TURNS_IN_HOUR];
        }

        void changeSetting(int what, int v) {
            settings[what] = v;
            if (what == TURNS_IN_HOUR) {
                rest = 0;
            }
        }

        void gainHeight(int amount) {
            height = Math.min(MOST_HEIGHT, height + amount);
        }

        void loseHeight(int amount) {
            height = Math.max(0, height - amount);
        }

        void turnAside(int by) {
            direction = around(direction + by);
            loseHeight(HEIGHT_LOST_IN_NUDGE * Math.abs(by));
            rest = 0;
        }

        int standing() {
            int count = 0;
            for (int k = 0; k < pins; k++) {
                count += stands[k];
            }
            return count;
        }

        int pinAt(int place) {
            for (int k = 0; k < pins; k++) {
                if (places[k] == place) {
                    return k;
                }
            }
            return NONE;
        }

        void putPin(int place) {
            if (pins < MOST_PINS) {
                places[pins] = place;
                stands[pins] = 1;
                pins++;
            }
        }

        void takePin(int k) {
            pins--;
            for (int later = k; later < pins; later++) {
                places[later] = places[later + 1];
                stands[later] = stands[later + 1];
            }
        }

        void standAllPins() {
            for (int k = 0; k < pins; k++) {
                stands[k] = 1;
            }
        }

        void knockDown(int k) {
            stands[k] = 0;
            height = Math.max(0, height - HEIGHT_LOST_IN_HIT);
            latestHit = latestHit + 1 < MOST_HITS ? latestHit + 1 : 0;
            hits = Math.min(MOST_HITS, hits + 1);
            ledger[ROW * latestHit] = places[k];
            ledger[ROW * latestHit + 1] = clock;
            ledger[ROW * latestHit + 2] = height;
        }

        int rowOfHit(int j) {
            return j <= latestHit ? latestHit - j : latestHit - j + MOST_HITS;
        }

        void noteReading() {
            if (readings < MOST_READINGS) {
                readingRows[ROW * readings] = clock;
                readingRows[ROW * readings + 1] = direction;
                readingRows[ROW * readings + 2] = height;
                readings++;
            }
        }

        int clockOf(int reading) {
            return readingRows[ROW * reading];
        }

        int directionOf(int reading) {
            return readingRows[ROW * reading + 1];
        }

        int moveBetween(int i, int j) {
            return around(directionOf(j) - directionOf(i));
        }

        /** How far reading j is from where it would be expected at this latitude behind i. */
        int distanceFromExpected(int i, int j, int latitude) {
            // The product passes the range of int from some 2000 turns on.
            long turns = clockOf(j) - clockOf(i);
            long way = divideDown(900L * sineOf(latitude) * turns, unit());
            int expected = (int) Math.floorMod(directionOf(i) + way, (long) ROUND);
            int distance = around(directionOf(j) - expected);
            return Math.min(distance, ROUND - distance);
        }
    }

    /**
     * The turns of one state. A turn seldom comes to a pin, so the way to the next one is kept
     * and the pins are looked at only when it has been gone. Whoever changes the state
     * otherwise calls begin before the next turn.
     */
    private static final class Motion {
        private final State state;
        private int speed;
        private int unit;
        /** Minutes up to the nearest pin that stands, in the direction of the motion; at least 1. */
        private int gap;
        /** The pin that fell first behind begin. */
        int firstFallen;

        Motion(State state) {
            this.state = state;
        }

        void begin() {
            speed = 900 * sineOf(state.settings[LATITUDE]);
            unit = state.unit();
            gap = gapAhead();
            firstFallen = NONE;
        }

        /** Returns how many pins fell. */
        int turns(int m) {
            int fallen = 0;
            for (int i = 0; i < m; i++) {
                fallen += turn();
            }
            return fallen;
        }

        /** Returns how many pins fell. */
        int turn() {
            int fallen = 0;
            if (state.height > 0) {
                fallen = go(wayOfTurn());
                dragAndDrive();
            }
            state.clock++;
            return fallen;
        }

        private int wayOfTurn() {
            int rest = state.rest + speed;
            int way = (int) divideDown(rest, unit);
            state.rest = rest - way * unit;
            return way;
        }

        private int go(int way) {
            int steps = Math.abs(way);
            if (steps < gap) {
                gap -= steps;
                state.direction = around(state.direction + way);
                return 0;
            }
            int fallen = 0;
            for (int i = 0; i < steps; i++) {
                state.direction = around(state.direction + (way < 0 ? -1 : 1));
                int k = state.pinAt(state.direction);
                if (k >= 0 && state.stands[k] == 1 && state.height >= state.settings[REACH]) {
                    state.knockDown(k);
                    fallen++;
                    firstFallen = firstFallen == NONE ? k : firstFallen;
                }
            }
            gap = gapAhead();
            return fallen;
        }

        private int gapAhead() {
            int nearest = ROUND;
            for (int k = 0; k < state.pins; k++) {
                int goingOn = around(state.places[k] - state.direction);
                int way = speed < 0 ? around(-goingOn) : goingOn;
                // A pin right here is not met before the direction has been all around.
                if (state.stands[k] == 1 && way > 0) {
                    nearest = Math.min(nearest, way);
                }
            }
            return nearest;
        }

        private void dragAndDrive() {
            state.loseHeight(state.height * state.settings[DRAG] / 10000 + 1);
            state.gainHeight(state.settings[DRIVE]);
        }
    }

    /** The states that undo brings back; when there are too many, the oldest one is written over. */
    private static final class History {
        private final State[] states = new State[MOST_REMEMBERED];
        /** Where the next state goes; the places are used round and round. */
        private int free;
        int count;

        History() {
            for (int i = 0; i < MOST_REMEMBERED; i++) {
                states[i] = new State();
            }
        }

        void remember(State state) {
            states[free].copyFrom(state);
            free = free + 1 < MOST_REMEMBERED ? free + 1 : 0;
            count = Math.min(MOST_REMEMBERED, count + 1);
        }

        void takeBack(State state) {
            free = free > 0 ? free - 1 : MOST_REMEMBERED - 1;
            count--;
            state.copyFrom(states[free]);
        }

        void forget() {
            count = 0;
        }
    }

    /** The text buffer. What the text tells may be asked only when it has no error. */
    private static final class Text {
        static final int MOST_SIGNS = 100;
        private static final int MOST_PINS_TOLD = 20;
        private static final int MOST_DEGREES = 179;
        private static final int LATITUDE_AT = 2;
        private static final int TURNS_AT = 4;
        private static final int DRAG_AT = 7;
        private static final int HEIGHT_AT = 9;
        private static final int PINS_AT = 13;
        private static final int PIN_SIGNS = 4;

        final char[] signs = new char[MOST_SIGNS];
        int length;

        int firstError() {
            for (int i = 0; i < length; i++) {
                if (!isAllowed(i)) {
                    return i;
                }
            }
            boolean complete = length >= PINS_AT && (length - PINS_AT) % PIN_SIGNS == 0;
            return complete ? NONE : length;
        }

        int latitude() {
            int size = number(LATITUDE_AT, TURNS_AT);
            return signs[1] == '-' ? -size : size;
        }

        int turnsInHour() {
            return number(TURNS_AT, DRAG_AT);
        }

        int drag() {
            return number(DRAG_AT, HEIGHT_AT);
        }

        int height() {
            return number(HEIGHT_AT, PINS_AT);
        }

        int pins() {
            return (length - PINS_AT) / PIN_SIGNS;
        }

        int placeOfPin(int k) {
            return MINUTES_OF_DEGREE * degreesOfPin(k);
        }

        private int degreesOfPin(int k) {
            int at = PINS_AT + PIN_SIGNS * k;
            return number(at + 1, at + PIN_SIGNS);
        }

        /** The number whose digits stand from one index up to, without it, another. */
        private int number(int from, int to) {
            int value = 0;
            for (int i = from; i < to && i < length; i++) {
                value = 10 * value + (signs[i] - '0');
            }
            return value;
        }

        /** Whether the sign may stand there; all the signs before it may. */
        private boolean isAllowed(int i) {
            if (i == 0) {
                return signs[i] == 'F';
            }
            if (i < LATITUDE_AT) {
                return signs[i] == '+' || signs[i] == '-';
            }
            if (i < PINS_AT) {
                return isDigit(i) && settingDigitFits(i);
            }
            if (i >= PINS_AT + PIN_SIGNS * MOST_PINS_TOLD) {
                return false;
            }
            if ((i - PINS_AT) % PIN_SIGNS == 0) {
                return signs[i] == 'p';
            }
            return isDigit(i) && placeDigitFits(i);
        }

        private boolean isDigit(int i) {
            return signs[i] >= '0' && signs[i] <= '9';
        }

        private boolean settingDigitFits(int i) {
            if (i < TURNS_AT) {
                return beginsNumber(number(LATITUDE_AT, i + 1), span(i, TURNS_AT),
                        0, MOST_SETTING[LATITUDE]);
            }
            if (i < DRAG_AT) {
                return beginsNumber(number(TURNS_AT, i + 1), span(i, DRAG_AT),
                        LEAST_SETTING[TURNS_IN_HOUR], MOST_SETTING[TURNS_IN_HOUR]);
            }
            // Any digits make a drag and a height.
            return true;
        }

        /** How many numbers begin with the digits up to index i, if the number ends before end. */
        private int span(int i, int end) {
            int span = 1;
            for (int later = i + 1; later < end; later++) {
                span *= 10;
            }
            return span;
        }

        private boolean beginsNumber(int digits, int span, int least, int most) {
            int first = digits * span;
            return first <= most && first + span - 1 >= least;
        }

        /** The earlier places are all different, so it is enough to count those in the way. */
        private boolean placeDigitFits(int i) {
            int pin = (i - PINS_AT) / PIN_SIGNS;
            int at = PINS_AT + PIN_SIGNS * pin;
            int span = span(i, at + PIN_SIGNS);
            int first = number(at + 1, i + 1) * span;
            int last = Math.min(MOST_DEGREES, first + span - 1);
            int left = last - first + 1;
            for (int k = 0; k < pin; k++) {
                int degrees = degreesOfPin(k);
                if (degrees >= first && degrees <= last) {
                    left--;
                }
            }
            return left > 0;
        }
    }
}
