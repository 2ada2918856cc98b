/** The boundary cases of the promises 31 and 32: the save slots. */
public final class SlotEdgeTest {
    private static final Class<IllegalStateException> STATE = IllegalStateException.class;
    private static final Class<IndexOutOfBoundsException> INDEX = IndexOutOfBoundsException.class;
    private static final int LEAST = Integer.MIN_VALUE;
    private static final int MOST = Integer.MAX_VALUE;

    public static void main(String[] args) {
        Sentences all = new Sentences();
        save(all);
        restore(all);
        nothingSaved(all);
        all.end();
    }

    private static void save(Sentences all) {
        String place = "Promise 31";
        all.holds(place, "`slot`: 0 or 1", check -> {
            FoucaultKeeper keeper = new FoucaultKeeper();
            check.due("save(0)", keeper.save(0), 0);
            keeper.swing(1);
            check.due("save(1)", keeper.save(1), 1);
            check.due("restore(0)", keeper.restore(0), 0);
            check.due("restore(1)", keeper.restore(1), 1);
        });
        all.holds(place, "Throws `IndexOutOfBoundsException` if there is no such save slot", check -> {
            for (int slot : new int[] {-1, 2, MOST, LEAST}) {
                Known.refuses(check, "save(" + slot + ")", INDEX, k -> k.save(slot));
            }
        });
        all.holds(place, "Stores the present state in a save slot. [over the one that was there]", check -> {
            FoucaultKeeper keeper = new FoucaultKeeper();
            keeper.save(0);
            keeper.swing(3);
            String later = Check.look(keeper);
            check.due("save(0) again", keeper.save(0), 3);
            check.due("save changes nothing else", Check.look(keeper), later);
            check.due("save is no action", keeper.undo(), 0);
            check.due("restore(0)", keeper.restore(0), 3);
            check.due("the later state", Check.look(keeper), later);
        });
        all.holds(place, "Stores the present state [40 pins, 20 hits, 20 readings; and without any]", check -> {
            FoucaultKeeper keeper = new FoucaultKeeper();
            keeper.set(0, 90);
            keeper.set(1, 60);
            keeper.push(4999);
            keeper.save(0);
            fill(keeper, 1);
            keeper.save(1);
            check.due("restore(0)", keeper.restore(0), 0);
            for (int what = 9; what <= 12; what++) {
                check.due("the empty one: about(" + what + ")", keeper.about(what), 0);
            }
            fill(keeper, 2);
            keeper.swing(4);
            check.due("restore(1)", keeper.restore(1), 2);
            isFilled(check, keeper);
        });
    }

    /** 40 pins, so many minutes apart; those up to 30 are hit. */
    private static void fill(FoucaultKeeper keeper, int apart) {
        for (int k = 1; k <= 40; k++) {
            keeper.addPin(apart * k);
        }
        keeper.swing(2);
        for (int i = 0; i < 20; i++) {
            keeper.nudge(apart);
            keeper.read();
        }
    }

    private static void isFilled(Check check, FoucaultKeeper keeper) {
        check.due("pins", keeper.about(9), 40);
        for (int k = 0; k < 40; k++) {
            check.due("the place of pin " + k, keeper.pin(k, 0), k + 1);
            check.due("whether pin " + k + " stands", keeper.pin(k, 1), k < 30 ? 0 : 1);
        }
        check.due("hits", keeper.about(11), 20);
        check.due("readings", keeper.about(12), 20);
        for (int i = 0; i < 20; i++) {
            check.due("hit " + i, keeper.hit(i, 0), 30 - i);
            check.due("reading " + i, keeper.reading(i, 1), 31 + i);
        }
    }

    private static void restore(Sentences all) {
        String place = "Promise 32";
        all.holds(place, "Replaces the state by the one in a save slot, and forgets all remembered states.", check -> {
            FoucaultKeeper keeper = new FoucaultKeeper();
            keeper.push(5);
            keeper.save(0);
            String saved = Check.look(keeper);
            for (int i = 0; i < 15; i++) {
                keeper.swing(1);
            }
            check.due("restore(0)", keeper.restore(0), 0);
            check.due("the state", Check.look(keeper), saved);
            check.refused(keeper, "undo", STATE, keeper::undo);
            keeper.push(1);
            check.due("undo of what came behind", keeper.undo(), 0);
            check.due("the state behind it", Check.look(keeper), saved);
        });
        all.holds(place, "The save slot keeps it.", check -> {
            FoucaultKeeper keeper = Check.loaded("F+90060009000p001");
            keeper.save(1);
            String saved = Check.look(keeper);
            for (int i = 0; i < 3; i++) {
                keeper.swing(5);
                keeper.read();
                keeper.removePin(0);
                check.due("restore(1)", keeper.restore(1), 0);
                check.due("the state", Check.look(keeper), saved);
            }
        });
        all.holds(place, "Returns the clock then.", check -> {
            FoucaultKeeper keeper = new FoucaultKeeper();
            keeper.save(0);
            keeper.swing(500);
            keeper.save(1);
            keeper.swing(500);
            check.due("restore(1)", keeper.restore(1), 500);
            check.due("restore(0)", keeper.restore(0), 0);
            check.due("the clock", keeper.about(8), 0);
        });
        all.holds(place, "Throws `IndexOutOfBoundsException` if there is no such save slot", check -> {
            for (int slot : new int[] {-1, 2, MOST, LEAST}) {
                Known.refuses(check, "restore(" + slot + ")", INDEX, k -> k.restore(slot));
            }
        });
    }

    private static void nothingSaved(Sentences all) {
        String place = "Promise 32";
        all.holds(place, "Throws `IllegalStateException` if nothing has been saved in it", check -> {
            Known.refuses(check, "restore(1)", STATE, k -> k.restore(1));
            FoucaultKeeper keeper = new FoucaultKeeper();
            check.refused(keeper, "restore(0) of a new object", STATE, () -> keeper.restore(0));
            check.refused(keeper, "restore(1) of a new object", STATE, () -> keeper.restore(1));
            keeper.save(1);
            check.refused(keeper, "restore(0), when 1 is filled", STATE, () -> keeper.restore(0));
            check.due("restore(1)", keeper.restore(1), 0);
        });
        all.holds(place, "since the last load", check -> {
            FoucaultKeeper keeper = new FoucaultKeeper();
            Check.write(keeper, "F+50240055000");
            keeper.save(0);
            keeper.save(1);
            keeper.load();
            check.refused(keeper, "restore(0) behind load", STATE, () -> keeper.restore(0));
            check.refused(keeper, "restore(1) behind load", STATE, () -> keeper.restore(1));
            keeper.swing(2);
            keeper.save(0);
            check.due("restore(0), saved behind load", keeper.restore(0), 2);
            check.refused(keeper, "restore(1), not saved behind load", STATE, () -> keeper.restore(1));
            keeper.append('x');
            check.refused(keeper, "load that is refused", STATE, keeper::load);
            check.due("restore(0) behind it", keeper.restore(0), 2);
        });
    }
}
