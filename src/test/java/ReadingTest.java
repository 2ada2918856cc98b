/** Promises 20 to 22: what readings tell. */
public final class ReadingTest {
    public static void main(String[] args) {
        Check check = new Check();
        promise20(check);
        promise21(check);
        promise22(check);
        promise22Later(check);
        promise22Ties(check);
        refused(check);
        check.end();
    }

    private static void promise20(Check check) {
        FoucaultKeeper keeper = new FoucaultKeeper();
        keeper.read();
        keeper.nudge(600);
        keeper.read();
        keeper.nudge(-599);
        keeper.read();
        keeper.read();
        check.due("move(0, 1)", keeper.move(0, 1), 600);
        check.due("move(1, 2)", keeper.move(1, 2), 10201);
        check.due("move(0, 2)", keeper.move(0, 2), 1);
        check.due("move(2, 3)", keeper.move(2, 3), 0);
        check.changesNothing(keeper, "move(0, 3)", () -> keeper.move(0, 3));
    }

    private static void promise21(Check check) {
        FoucaultKeeper keeper = new FoucaultKeeper();
        keeper.read();
        keeper.nudge(600);
        keeper.read();
        keeper.read();
        keeper.nudge(-1);
        keeper.read();
        // 600 * 60000 / (900 * 766) = 52.2..
        check.due("time at 50", keeper.time(0, 1), 52);
        check.due("time of no move", keeper.time(1, 2), 0);
        check.due("time of the longest move", keeper.time(2, 3), 10799L * 60000 / (900 * 766));
        keeper.set(0, 1);
        check.due("time at 1", keeper.time(0, 1), 600 * 60000 / (900 * 17));
        // 10799 * 60000 / 15300 = 42349.01..
        check.due("the longest time at 1", keeper.time(2, 3), 42349);
        keeper.nudge(-4);
        keeper.read();
        // 10795 * 60000 / 15300 = 42333.3..
        check.due("nearly the longest time at 1", keeper.time(2, 4), 42333);
        keeper.set(0, 90);
        check.due("time at 90, exactly", keeper.time(0, 1), 40);
        keeper.set(0, -50);
        check.due("time at -50", keeper.time(0, 1), 10200L * 60000 / (900 * 766));
        check.due("time of no move at -50", keeper.time(1, 2), 0);
        check.due("time of a minute back at -50", keeper.time(2, 3), 0);
        keeper.set(0, -1);
        check.due("time of a minute back at -1", keeper.time(2, 3), 3);
        keeper.set(0, 0);
        check.due("time at 0", keeper.time(0, 1), -9);
        check.due("time of no move at 0", keeper.time(1, 2), -9);
        check.changesNothing(keeper, "time(0, 3)", () -> keeper.time(0, 3));
    }

    private static void promise22(Check check) {
        for (int latitude : new int[] {-90, -37, -5, -1, 0, 1, 12, 66, 90}) {
            FoucaultKeeper keeper = new FoucaultKeeper();
            keeper.set(0, latitude);
            keeper.set(2, 0);
            keeper.set(1, 300);
            keeper.read();
            keeper.swing(500);
            keeper.read();
            keeper.set(0, 45);
            check.due("the latitude that it was", keeper.latitudeFrom(0, 1), latitude);
        }
        FoucaultKeeper keeper = Check.loaded("F+90060009999");
        keeper.read();
        keeper.swing(10);
        keeper.read();
        check.due("with 60 turns", keeper.latitudeFrom(0, 1), 90);
        keeper.set(1, 120);
        check.due("with 120 turns", keeper.latitudeFrom(0, 1), 90);
        keeper.nudge(-75);
        keeper.read();
        // 75 minutes at 90 behind 10 turns of 120 an hour: the present turns in an hour count.
        check.due("half of it", keeper.latitudeFrom(0, 2), 90);
        keeper.set(1, 60);
        check.due("half of it with 60 turns", keeper.latitudeFrom(0, 2), 30);
        check.changesNothing(keeper, "latitudeFrom", () -> keeper.latitudeFrom(0, 2));
    }

    private static void promise22Later(Check check) {
        FoucaultKeeper late = Check.loaded("F+30060009999");
        late.swing(300);
        late.read();
        late.swing(20);
        late.read();
        check.due("behind other turns", late.latitudeFrom(0, 1), 30);
        FoucaultKeeper far = Check.loaded("F+90060009999");
        far.read();
        far.swing(1);
        for (int i = 0; i < 8; i++) {
            far.nudge(600);
        }
        far.nudge(591);
        far.read();
        // 5406 is 5391 on from 15, but 5379 back from 10785, where all from -90 to -70 come to.
        check.due("the smaller way around, backwards", far.latitudeFrom(0, 1), -70);
    }

    private static void promise22Ties(Check check) {
        FoucaultKeeper keeper = new FoucaultKeeper();
        keeper.read();
        keeper.read();
        check.due("no turns", keeper.latitudeFrom(0, 1), 0);
        keeper.nudge(600);
        keeper.read();
        check.due("no turns, but a nudge", keeper.latitudeFrom(0, 2), 0);
        FoucaultKeeper back = Check.loaded("F+90900005000");
        back.read();
        back.swing(1);
        back.nudge(-2);
        back.read();
        // In one turn of 900 an hour every negative latitude is rounded down to one minute back.
        check.due("the negative one nearest to 0", back.latitudeFrom(0, 1), -1);
        FoucaultKeeper still = Check.loaded("F+00900005000");
        still.read();
        still.swing(1);
        still.nudge(1);
        still.read();
        check.due("one minute on", still.latitudeFrom(0, 1), 90);
        FoucaultKeeper far = Check.loaded("F+90900005000");
        for (int i = 0; i < 9; i++) {
            far.nudge(600);
        }
        far.push(9999);
        far.read();
        far.swing(1);
        far.nudge(-2);
        for (int i = 0; i < 9; i++) {
            far.nudge(600);
        }
        far.read();
        // Expected is 5400 on, or 5399 at a negative latitude; read is 5399 on from there.
        check.due("the smaller way around", far.latitudeFrom(0, 1), 90);
        // 90 would be 10800 on, right back at the start, but so would be none at all.
        FoucaultKeeper around = Check.loaded("F+90060009999");
        around.read();
        around.swing(500);
        around.swing(220);
        around.read();
        check.due("once around", around.latitudeFrom(0, 1), 0);
        FoucaultKeeper half = Check.loaded("F+90060009999");
        half.read();
        half.swing(360);
        half.read();
        check.due("half around, either way", half.latitudeFrom(0, 1), 90);
        half.set(0, -90);
        half.swing(500);
        half.swing(220);
        half.push(9999);
        half.read();
        check.due("the positive one", half.latitudeFrom(1, 2), 0);
    }

    private static FoucaultKeeper twoReadings() {
        FoucaultKeeper keeper = new FoucaultKeeper();
        keeper.read();
        keeper.read();
        keeper.set(0, 0);
        return keeper;
    }

    private static void refused(Check check) {
        int[][] none = {{-1, 0}, {0, -1}, {0, 2}, {2, 0}, {2, 3}, {2, 2}, {-1, -1}, {5, -7}};
        for (int[] pair : none) {
            FoucaultKeeper keeper = twoReadings();
            String told = "(" + pair[0] + ", " + pair[1] + ")";
            check.refused(keeper, "move" + told, IndexOutOfBoundsException.class, () -> keeper.move(pair[0], pair[1]));
            check.refused(keeper, "time" + told, IndexOutOfBoundsException.class, () -> keeper.time(pair[0], pair[1]));
            check.refused(keeper, "latitudeFrom" + told, IndexOutOfBoundsException.class,
                    () -> keeper.latitudeFrom(pair[0], pair[1]));
        }
        for (int[] pair : new int[][] {{0, 0}, {1, 0}, {1, 1}}) {
            FoucaultKeeper keeper = twoReadings();
            String told = "(" + pair[0] + ", " + pair[1] + ")";
            check.refused(keeper, "move" + told, IllegalArgumentException.class, () -> keeper.move(pair[0], pair[1]));
            check.refused(keeper, "time" + told, IllegalArgumentException.class, () -> keeper.time(pair[0], pair[1]));
            check.refused(keeper, "latitudeFrom" + told, IllegalArgumentException.class,
                    () -> keeper.latitudeFrom(pair[0], pair[1]));
        }
    }
}
