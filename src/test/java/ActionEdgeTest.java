/** The boundary cases of the promises 11 to 19: the actions. */
public final class ActionEdgeTest {
    private static final Class<IllegalArgumentException> ARGUMENT = IllegalArgumentException.class;
    private static final Class<IllegalStateException> STATE = IllegalStateException.class;
    private static final Class<IndexOutOfBoundsException> INDEX = IndexOutOfBoundsException.class;
    private static final int LEAST = Integer.MIN_VALUE;
    private static final int MOST = Integer.MAX_VALUE;

    public static void main(String[] args) {
        Sentences all = new Sentences();
        swing(all);
        set(all);
        push(all);
        nudge(all);
        addPin(all);
        removePin(all);
        raise(all);
        read(all);
        undo(all);
        all.end();
    }

    private static void swing(Sentences all) {
        String place = "Promise 11";
        all.holds(place, "`m`: number of turns, 1 to 500", check -> {
            FoucaultKeeper keeper = Check.loaded("F+90900009999");
            keeper.swing(1);
            check.due("the clock behind 1", keeper.about(8), 1);
            check.due("the direction behind 1", keeper.about(5), 1);
            keeper.swing(500);
            check.due("the clock behind 500 more", keeper.about(8), 501);
            check.due("the direction behind 500 more", keeper.about(5), 501);
            check.due("the height behind 500 more", keeper.about(7), 9498);
        });
        all.holds(place, "Throws `IllegalArgumentException` if m is out of range", check -> {
            for (int m : new int[] {0, -1, 501, MOST, LEAST}) {
                Known.refuses(check, "swing(" + m + ")", ARGUMENT, k -> k.swing(m));
            }
        });
        all.holds(place, "(Together they are one action.)", check -> {
            FoucaultKeeper keeper = new FoucaultKeeper();
            keeper.push(1);
            String before = Check.look(keeper);
            keeper.swing(500);
            check.due("undo of 500 turns", keeper.undo(), 1);
            check.due("the state behind it", Check.look(keeper), before);
        });
        all.holds(place, "Returns the number of pins that fell in them.", check -> {
            FoucaultKeeper keeper = Check.loaded("F+90060009999p000");
            check.due("none", keeper.swing(1), 0);
            for (int at = 16; at < 55; at++) {
                keeper.addPin(at);
            }
            check.due("15 of 40", keeper.swing(1), 15);
            check.due("24 more, the ones before not again", keeper.swing(2), 24);
            keeper.raise();
            keeper.swing(500);
            keeper.set(3, 1);
            check.due("all 40", keeper.swing(500), 40);
        });
    }

    private static void set(Sentences all) {
        String place = "Promise 12";
        all.holds(place, "If it is the turns in an hour, the rest becomes 0; otherwise it stays.", check -> {
            FoucaultKeeper keeper = new FoucaultKeeper();
            keeper.swing(1);
            int[][] others = {{0, 90}, {0, -90}, {0, 0}, {2, 99}, {2, 0}, {3, 1}, {3, 9999}, {4, 99}, {4, 0}};
            for (int[] pair : others) {
                keeper.set(pair[0], pair[1]);
                check.due("the rest behind set(" + pair[0] + ", " + pair[1] + ")", keeper.about(6), 209400);
            }
            keeper.set(1, 240);
            check.due("the rest behind the same turns in an hour", keeper.about(6), 0);
            keeper.set(0, 50);
            keeper.swing(1);
            check.due("a rest again", keeper.about(6), 209400);
            keeper.set(1, 60);
            check.due("the rest behind other turns in an hour", keeper.about(6), 0);
        });
        all.holds(place, "`what`: its number, 0 to 4", check -> {
            for (int what : new int[] {-1, 5, 6, MOST, LEAST}) {
                for (int v : new int[] {0, 60, 90}) {
                    Known.refuses(check, "set(" + what + ", " + v + ")", ARGUMENT, k -> k.set(what, v));
                }
            }
        });
        all.holds(place, "`v`: new value, in its range", check -> {
            int[][] inside = {{0, -90, 90}, {0, 90, 90}, {1, 60, 60}, {1, 900, 60}, {2, 0, 0}, {2, 99, 0}, {3, 1, 4000},
                {3, 9999, 4000}, {4, 0, 0}, {4, 99, 0}};
            for (int[] row : inside) {
                FoucaultKeeper keeper = Check.loaded("F+90060009000");
                String told = "set(" + row[0] + ", " + row[1] + ")";
                check.due(told, keeper.set(row[0], row[1]), row[2]);
                check.due("about behind " + told, keeper.about(row[0]), row[1]);
            }
        });
        all.holds(place, "Throws `IllegalArgumentException` if what or v is out of range", check -> {
            int[][] outside = {{0, -91}, {0, 91}, {1, 59}, {1, 901}, {1, -240}, {2, -1}, {2, 100}, {3, 0}, {3, 10000}, {3, -1},
                {4, -1}, {4, 100}, {0, LEAST}, {0, MOST}, {1, LEAST}, {1, MOST}, {2, LEAST}, {2, MOST}, {3, LEAST},
                {3, MOST}, {4, LEAST}, {4, MOST}};
            for (int[] pair : outside) {
                Known.refuses(check, "set(" + pair[0] + ", " + pair[1] + ")", ARGUMENT, k -> k.set(pair[0], pair[1]));
            }
        });
    }

    private static void push(Sentences all) {
        String place = "Promise 13";
        all.holds(place, "its height increases, but not above 9999", check -> {
            int[][] due = {{9998, 1, 9999}, {9998, 2, 9999}, {9999, 1, 9999}, {9999, 9999, 9999}, {0, 1, 1}, {0, 9999, 9999},
                {1, 9999, 9999}, {0, 9998, 9998}};
            for (int[] row : due) {
                FoucaultKeeper keeper = Check.loaded(String.format("F+5024005%04d", row[0]));
                String told = "push(" + row[1] + ") at " + row[0];
                check.due(told, keeper.push(row[1]), row[2]);
                check.due("the height behind " + told, keeper.about(7), row[2]);
            }
        });
        all.holds(place, "`amount`: 1 to 9999", check -> {
            for (int amount : new int[] {1, 9999}) {
                FoucaultKeeper keeper = Check.loaded("F+50240050000");
                check.due("push(" + amount + ")", keeper.push(amount), amount);
                check.due("it is one action", keeper.undo(), 0);
            }
        });
        all.holds(place, "Throws `IllegalArgumentException` if amount is out of range", check -> {
            for (int amount : new int[] {0, -1, 10000, MOST, LEAST}) {
                Known.refuses(check, "push(" + amount + ")", ARGUMENT, k -> k.push(amount));
            }
        });
    }

    private static void nudge(Sentences all) {
        String place = "Promise 14";
        all.holds(place, "its direction goes on (or back, if by is negative)", check -> {
            // {where it is brought to, by, the direction}: around at 10799 and 0
            int[][] due = {{0, -1, 10799}, {0, 1, 1}, {0, 0, 0}, {0, 600, 600}, {0, -600, 10200}, {-1, 1, 0}, {-1, 600, 599},
                {-600, 599, 10799}, {-600, 600, 0}, {599, -600, 10799}, {600, -600, 0}, {-1, 0, 10799}};
            for (int[] row : due) {
                FoucaultKeeper keeper = Check.loaded("F+50240059999");
                keeper.nudge(row[0]);
                String told = "nudge(" + row[1] + ") behind nudge(" + row[0] + ")";
                check.due(told, keeper.nudge(row[1]), row[2]);
                check.due("the direction behind " + told, keeper.about(5), row[2]);
            }
        });
        all.holds(place, "without hitting pins", check -> {
            FoucaultKeeper keeper = Check.loaded("F+90060009999p000p001p010");
            keeper.nudge(600);
            keeper.nudge(-600);
            keeper.nudge(60);
            check.due("hits", keeper.about(11), 0);
            check.due("pins that stand", keeper.about(10), 3);
            check.due("the height", keeper.about(7), 9999 - 2 * 1260);
            check.due("the turn behind it starts at a pin, and hits none", keeper.swing(1), 0);
        });
        all.holds(place, "its height decreases by 2 for each minute, but not below 0", check -> {
            int[][] due = {{1200, 600, 0}, {1201, 600, 1}, {1199, 600, 0}, {1200, -600, 0}, {1201, -600, 1}, {1, -1, 0}, {2, 1, 0},
                {3, -1, 1}, {0, 600, 0}, {0, 0, 0}, {7, 0, 7}};
            for (int[] row : due) {
                FoucaultKeeper keeper = Check.loaded(String.format("F+5024005%04d", row[0]));
                keeper.nudge(row[1]);
                check.due("the height " + row[0] + " behind nudge(" + row[1] + ")", keeper.about(7), row[2]);
            }
        });
        all.holds(place, "its rest becomes 0.", check -> {
            for (int by : new int[] {-600, -1, 0, 1, 600}) {
                FoucaultKeeper keeper = new FoucaultKeeper();
                keeper.swing(1);
                check.due("a rest", keeper.about(6), 209400);
                keeper.nudge(by);
                check.due("the rest behind nudge(" + by + ")", keeper.about(6), 0);
            }
        });
        all.holds(place, "`by`: -600 to 600", check -> {
            FoucaultKeeper keeper = new FoucaultKeeper();
            check.due("nudge(600)", keeper.nudge(600), 600);
            check.due("nudge(-600)", keeper.nudge(-600), 0);
            check.due("they are two actions", keeper.undo(), 1);
        });
        all.holds(place, "Throws `IllegalArgumentException` if by is out of range", check -> {
            for (int by : new int[] {-601, 601, MOST, LEAST}) {
                Known.refuses(check, "nudge(" + by + ")", ARGUMENT, k -> k.nudge(by));
            }
        });
    }

    private static void addPin(Sentences all) {
        String place = "Promise 15";
        all.holds(place, "which stands (also at the present direction, where it is not hit by this)", check -> {
            FoucaultKeeper keeper = Check.loaded("F+90060009000");
            keeper.swing(1);
            check.due("addPin(15)", keeper.addPin(15), 0);
            check.due("it stands", keeper.pin(0, 1), 1);
            check.due("it is right here", keeper.pin(0, 2), 0);
            check.due("no hit", keeper.about(11), 0);
            check.due("the height", keeper.about(7), 8999);
            check.due("it is not hit by the next turn", keeper.swing(1), 0);
        });
        all.holds(place, "`place`: 0 to 10799", check -> {
            FoucaultKeeper keeper = new FoucaultKeeper();
            check.due("addPin(10799)", keeper.addPin(10799), 0);
            check.due("addPin(0)", keeper.addPin(0), 1);
            check.due("its place", keeper.pin(0, 0), 10799);
            check.due("its place", keeper.pin(1, 0), 0);
        });
        all.holds(place, "Throws `IllegalArgumentException` if place is out of range", check -> {
            for (int at : new int[] {-1, 10800, 10800 + 60, 60 - 10800, MOST, LEAST}) {
                Known.refuses(check, "addPin(" + at + ")", ARGUMENT, k -> k.addPin(at));
            }
        });
        all.holds(place, "Throws `IllegalStateException` if there are 40 pins", check -> {
            for (int at : new int[] {40, 39, 10799}) {
                FoucaultKeeper keeper = new FoucaultKeeper();
                for (int k = 0; k < 40; k++) {
                    check.due("addPin(" + k + ")", keeper.addPin(k), k);
                }
                check.refused(keeper, "addPin(" + at + ") of 41", STATE, () -> keeper.addPin(at));
                keeper.removePin(0);
                check.due("addPin(41) of 40", keeper.addPin(41), 39);
                check.due("addPin(0) of 41", Check.answer(() -> keeper.addPin(0)), "throws IllegalStateException");
            }
        });
        all.holds(place, "or one is at this place", check -> {
            // The pins at 60 and 120 have fallen, the one at 140 stands.
            for (int at : new int[] {60, 120, 140}) {
                Known.refuses(check, "addPin(" + at + ")", STATE, k -> k.addPin(at));
            }
            FoucaultKeeper keeper = new FoucaultKeeper();
            keeper.addPin(0);
            check.refused(keeper, "addPin(0) again", STATE, () -> keeper.addPin(0));
            check.due("addPin(1)", keeper.addPin(1), 1);
            check.due("addPin(10799)", keeper.addPin(10799), 2);
            keeper.removePin(0);
            check.due("addPin(0), free again", keeper.addPin(0), 2);
        });
    }

    private static void removePin(Sentences all) {
        String place = "Promise 16";
        all.holds(place, "Returns its place. [the first, the last and the only one, standing or fallen]", check -> {
            FoucaultKeeper keeper = Check.loaded("F+90060009000p000p001p179");
            keeper.swing(4);
            check.due("the last one", keeper.removePin(2), 10740);
            check.due("the first one", keeper.removePin(0), 0);
            check.due("the fallen one is the first", keeper.pin(0, 1), 0);
            check.due("the only one", keeper.removePin(0), 60);
            check.due("pins", keeper.about(9), 0);
            check.due("undo brings it back", keeper.undo(), 3);
            check.due("as it was", keeper.pin(0, 1), 0);
        });
        all.holds(place, "Removes a pin. [one of 40]", check -> {
            FoucaultKeeper keeper = new FoucaultKeeper();
            for (int k = 0; k < 40; k++) {
                keeper.addPin(k);
            }
            check.due("removePin(39)", keeper.removePin(39), 39);
            check.due("removePin(0)", keeper.removePin(0), 0);
            check.due("the last one", keeper.pin(37, 0), 38);
            check.refused(keeper, "one behind it", INDEX, () -> keeper.pin(38, 0));
        });
        all.holds(place, "Throws `IndexOutOfBoundsException` if there is no such pin", check -> {
            for (int pin : new int[] {-1, Known.PINS, 39, 40, MOST, LEAST}) {
                Known.refuses(check, "removePin(" + pin + ")", INDEX, k -> k.removePin(pin));
            }
            FoucaultKeeper keeper = new FoucaultKeeper();
            check.refused(keeper, "removePin(0) of none", INDEX, () -> keeper.removePin(0));
        });
    }

    private static void raise(Sentences all) {
        String place = "Promise 17";
        all.holds(place, "Makes all pins stand again.", check -> {
            FoucaultKeeper keeper = Check.loaded("F+90060009999");
            for (int at = 1; at <= 40; at++) {
                keeper.addPin(at);
            }
            keeper.swing(3);
            check.due("all 40 have fallen", keeper.about(10), 0);
            keeper.raise();
            check.due("all 40 stand", keeper.about(10), 40);
            check.due("the ledger stays", keeper.about(11), 20);
            keeper.undo();
            check.due("undo", keeper.about(10), 0);
        });
        all.holds(place, "Returns the number of pins that had fallen.", check -> {
            FoucaultKeeper keeper = Check.loaded("F+90060009999");
            check.due("no pins", keeper.raise(), 0);
            for (int at = 1; at <= 40; at++) {
                keeper.addPin(at);
            }
            check.due("none", keeper.raise(), 0);
            keeper.swing(2);
            check.due("30 of 40", keeper.raise(), 30);
            check.due("none again", keeper.raise(), 0);
            keeper.nudge(-30);
            keeper.swing(3);
            check.due("all 40", keeper.raise(), 40);
        });
    }

    private static void read(Sentences all) {
        String place = "Promise 18";
        all.holds(place, "Throws `IllegalStateException` if there are 20 readings", check -> {
            FoucaultKeeper keeper = new FoucaultKeeper();
            for (int i = 0; i < 20; i++) {
                check.due("read " + i, keeper.read(), i);
            }
            check.refused(keeper, "read 20", STATE, keeper::read);
            check.refused(keeper, "read 20 again", STATE, keeper::read);
            check.due("undo of read 19", keeper.undo(), 13);
            check.due("read 19 again", keeper.read(), 19);
            check.refused(keeper, "read 20 behind it", STATE, keeper::read);
        });
    }

    private static void undo(Sentences all) {
        String place = "Promise 19";
        all.holds(place, "Returns how many states are still remembered.", check -> {
            FoucaultKeeper keeper = new FoucaultKeeper();
            for (int i = 0; i < 14; i++) {
                keeper.push(1);
            }
            for (int left = 13; left >= 0; left--) {
                check.due("undo", keeper.undo(), left);
            }
            check.due("the height", keeper.about(7), 5000);
            for (int i = 0; i < 20; i++) {
                keeper.push(1);
            }
            check.due("undo behind 20 actions", keeper.undo(), 13);
            check.due("the height behind 20 actions", keeper.about(7), 5019);
        });
        all.holds(place, "Throws `IllegalStateException` if none is remembered", check -> {
            FoucaultKeeper fresh = new FoucaultKeeper();
            check.refused(fresh, "undo of a new object", STATE, fresh::undo);
            fresh.push(1);
            fresh.undo();
            check.refused(fresh, "undo behind the last one", STATE, fresh::undo);
            fresh.push(1);
            fresh.save(0);
            fresh.restore(0);
            check.refused(fresh, "undo behind restore", STATE, fresh::undo);
            FoucaultKeeper loaded = Check.loaded("F+50240055000");
            check.refused(loaded, "undo behind load", STATE, loaded::undo);
        });
        all.holds(place, "Takes back the last action that is remembered. [of each kind, one after the other]", check -> {
            FoucaultKeeper keeper = Check.loaded("F+89061009000p000p001");
            Check.Call[] kinds = {
                () -> keeper.swing(5), () -> keeper.set(1, 900), () -> keeper.push(9), () -> keeper.nudge(-9),
                () -> keeper.addPin(17), () -> keeper.removePin(0), keeper::raise, keeper::read
            };
            String[] before = new String[kinds.length];
            for (int i = 0; i < kinds.length; i++) {
                before[i] = Check.look(keeper);
                kinds[i].answer();
            }
            for (int i = kinds.length - 1; i >= 0; i--) {
                check.due("undo of action " + i, keeper.undo(), i);
                check.due("the state behind it", Check.look(keeper), before[i]);
            }
        });
    }
}
