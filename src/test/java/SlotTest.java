/** Promises 31 and 32: the save slots. */
public final class SlotTest {
    public static void main(String[] args) {
        Check check = new Check();
        promise31(check);
        promise32(check);
        promise32Rows(check);
        refused(check);
        check.end();
    }

    private static FoucaultKeeper used() {
        FoucaultKeeper keeper = Check.loaded("F+90060009000p000p001");
        keeper.addPin(7);
        keeper.swing(5);
        keeper.read();
        keeper.set(3, 77);
        return keeper;
    }

    private static void promise31(Check check) {
        FoucaultKeeper keeper = used();
        check.changesNothing(keeper, "save(0)", () -> keeper.save(0));
        check.due("save(1)", keeper.save(1), 5);
        check.due("save is no action", keeper.undo(), 3);
        keeper.swing(3);
        check.due("save(0) over the first", keeper.save(0), 8);
        check.due("restore(1)", keeper.restore(1), 5);
        check.due("restore(0)", keeper.restore(0), 8);
    }

    private static void promise32(Check check) {
        FoucaultKeeper keeper = used();
        String then = Check.look(keeper);
        keeper.save(0);
        keeper.swing(100);
        keeper.read();
        keeper.removePin(0);
        keeper.set(0, -3);
        keeper.set(1, 100);
        check.due("restore(0)", keeper.restore(0), 5);
        check.due("the state", Check.look(keeper), then);
        check.refused(keeper, "undo behind restore", IllegalStateException.class, keeper::undo);
        keeper.swing(1);
        check.due("restore is no action, and swing is one", keeper.undo(), 0);
        keeper.nudge(5);
        check.due("the slot keeps it", keeper.restore(0), 5);
        check.due("the state again", Check.look(keeper), then);
        check.due("the text is no part of the state", keeper.clearText(), 21);
        keeper.restore(0);
        check.due("it does not come back", keeper.clearText(), 0);
        keeper.swing(1);
        keeper.save(1);
        keeper.undo();
        check.due("undo leaves the slots", keeper.restore(1), 6);
        Check.write(keeper, "F+00240055000");
        keeper.load();
        check.refused(keeper, "restore(0) behind load", IllegalStateException.class, () -> keeper.restore(0));
        check.refused(keeper, "restore(1) behind load", IllegalStateException.class, () -> keeper.restore(1));
        keeper.save(1);
        check.due("save behind load", keeper.restore(1), 0);
        check.refused(keeper, "the other one", IllegalStateException.class, () -> keeper.restore(0));
    }

    /** The rows of readings and hits that a slot keeps are written over in between. */
    private static void promise32Rows(Check check) {
        FoucaultKeeper keeper = Check.loaded("F+50240059999");
        for (int place = 1; place <= 30; place++) {
            keeper.addPin(place);
        }
        keeper.save(1);
        keeper.swing(9);
        keeper.read();
        keeper.read();
        keeper.save(0);
        String then = Check.look(keeper);
        keeper.restore(1);
        keeper.push(1);
        keeper.nudge(20);
        keeper.swing(3);
        keeper.read();
        keeper.nudge(20);
        keeper.read();
        check.due("restore(0)", keeper.restore(0), 9);
        check.due("its rows", Check.look(keeper), then);
        keeper.swing(2);
        keeper.undo();
        check.due("its rows behind undo", Check.look(keeper), then);
    }

    private static void refused(Check check) {
        for (int slot : new int[] {-1, 2, Integer.MAX_VALUE, Integer.MIN_VALUE}) {
            FoucaultKeeper keeper = used();
            check.refused(keeper, "save " + slot, IndexOutOfBoundsException.class, () -> keeper.save(slot));
            check.refused(keeper, "restore " + slot, IndexOutOfBoundsException.class, () -> keeper.restore(slot));
        }
        FoucaultKeeper keeper = used();
        check.refused(keeper, "restore(0) of nothing", IllegalStateException.class, () -> keeper.restore(0));
        check.due("the remembered states are kept", keeper.undo(), 3);
    }
}
