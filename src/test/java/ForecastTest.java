/** Promises 23 to 28: forecasts. */
public final class ForecastTest {
    public static void main(String[] args) {
        Check check = new Check();
        promise23(check);
        promise24(check);
        promise25(check);
        promise26(check);
        promise27(check);
        promise28(check);
        check.end();
    }

    private static void promise23(Check check) {
        FoucaultKeeper keeper = Check.loaded("F+90060005000p001p002p179");
        int[][] due = {{0, 0, 5000, 0, 3}, {3, 45, 4997, 0, 3}, {4, 60, 4946, 1, 2}, {8, 120, 4892, 2, 1},
            {500, 7500, 4400, 2, 1}};
        for (int[] row : due) {
            for (int what = 0; what <= 3; what++) {
                check.due("ahead(" + row[0] + ", " + what + ")", keeper.ahead(row[0], what), row[what + 1]);
            }
        }
        check.changesNothing(keeper, "ahead(500, 2)", () -> keeper.ahead(500, 2));
        int[][] wrong = {{-1, 0}, {501, 0}, {0, -1}, {0, 4}, {Integer.MAX_VALUE, 0}, {Integer.MIN_VALUE, 0}};
        for (int[] pair : wrong) {
            check.refused(keeper, "ahead(" + pair[0] + ", " + pair[1] + ")", IllegalArgumentException.class,
                    () -> keeper.ahead(pair[0], pair[1]));
        }
        keeper.swing(4);
        check.due("ahead counts its own turns alone", keeper.ahead(4, 2), 1);
        check.due("it is no action", keeper.undo(), 0);
    }

    private static void promise24(Check check) {
        FoucaultKeeper keeper = Check.loaded("F+90900009999p000p001p120");
        keeper.addPin(1);
        keeper.addPin(2000);
        keeper.addPin(2001);
        check.due("a pin right here", keeper.fallsAfter(0), -9);
        check.due("60 turns", keeper.fallsAfter(1), 60);
        check.due("7200 turns", keeper.fallsAfter(2), -9);
        check.due("one turn", keeper.fallsAfter(3), 1);
        check.due("2000 turns", keeper.fallsAfter(4), 2000);
        check.due("2001 turns", keeper.fallsAfter(5), -9);
        check.changesNothing(keeper, "fallsAfter(1)", () -> keeper.fallsAfter(1));
        keeper.swing(1);
        check.due("it has fallen", keeper.fallsAfter(3), 0);
        for (int wrong : new int[] {-1, 6, 40, Integer.MAX_VALUE, Integer.MIN_VALUE}) {
            check.refused(keeper, "fallsAfter(" + wrong + ")", IndexOutOfBoundsException.class,
                    () -> keeper.fallsAfter(wrong));
        }
        keeper.raise();
        check.due("it stands again, behind", keeper.fallsAfter(3), -9);
        keeper.set(0, -90);
        check.due("it stands again, right here", keeper.fallsAfter(3), -9);
        check.due("back to 0", keeper.fallsAfter(0), 1);
        FoucaultKeeper low = Check.loaded("F+90900004059p001");
        check.due("just at the reach", low.fallsAfter(0), 60);
        low.addPin(1);
        check.due("too low by a hit", low.fallsAfter(0), -9);
    }

    private static void promise25(Check check) {
        FoucaultKeeper keeper = Check.loaded("F+00060003000");
        check.due("at once", keeper.lowAfter(3000), 0);
        check.due("at once", keeper.lowAfter(9999), 0);
        check.due("in a turn", keeper.lowAfter(2999), 1);
        check.due("in 3000 turns", keeper.lowAfter(0), 3000);
        keeper.push(1);
        check.due("in 3001 turns", keeper.lowAfter(0), -9);
        check.due("in 3000 turns", keeper.lowAfter(1), 3000);
        keeper.set(4, 1);
        check.due("never", keeper.lowAfter(2999), -9);
        check.changesNothing(keeper, "lowAfter(0)", () -> keeper.lowAfter(0));
        for (int wrong : new int[] {-1, 10000, Integer.MAX_VALUE, Integer.MIN_VALUE}) {
            check.refused(keeper, "lowAfter(" + wrong + ")", IllegalArgumentException.class,
                    () -> keeper.lowAfter(wrong));
        }
        FoucaultKeeper pins = Check.loaded("F+90900005000p001");
        check.due("a hit counts", pins.lowAfter(4890), 60);
    }

    private static void promise26(Check check) {
        FoucaultKeeper keeper = Check.loaded("F+00060004001");
        check.due("none is needed", keeper.pushFor(1), 0);
        check.due("the first turn is too much", keeper.pushFor(2), 100);
        check.due("101 turns", keeper.pushFor(101), 100);
        check.due("102 turns", keeper.pushFor(102), 200);
        keeper.set(3, 9999);
        check.due("above 9999 there is nothing", keeper.pushFor(1), -9);
        keeper.set(4, 1);
        check.due("the drive keeps it up", keeper.pushFor(200), 6000);
        check.changesNothing(keeper, "pushFor(200)", () -> keeper.pushFor(200));
        FoucaultKeeper flat = Check.loaded("F+00060000000");
        flat.set(3, 9899);
        check.due("the greatest push", flat.pushFor(1), 9900);
        check.due("more than the greatest push", flat.pushFor(2), -9);
        // It is not asked ahead of the first turn: one below the reach is driven up.
        FoucaultKeeper driven = Check.loaded("F+00060003950");
        driven.set(4, 51);
        check.due("low ahead of the first turn", driven.pushFor(200), 0);
        FoucaultKeeper pin = Check.loaded("F+90900004010");
        pin.addPin(1);
        check.due("the pin is hit", pin.pushFor(1), 100);
        for (int wrong : new int[] {0, -1, 201, Integer.MAX_VALUE, Integer.MIN_VALUE}) {
            check.refused(keeper, "pushFor(" + wrong + ")", IllegalArgumentException.class,
                    () -> keeper.pushFor(wrong));
        }
    }

    private static void promise27(Check check) {
        FoucaultKeeper keeper = Check.loaded("F+90900009999");
        check.due("no pins", keeper.freeStart(200), 0);
        keeper.addPin(0);
        check.due("the start hits none", keeper.freeStart(200), 0);
        keeper.addPin(30);
        check.due("29 turns", keeper.freeStart(29), 0);
        check.due("30 turns", keeper.freeStart(30), 60);
        keeper.addPin(200);
        check.due("200 in the way", keeper.freeStart(140), 240);
        check.due("200 is not reached", keeper.freeStart(139), 60);
        keeper.swing(30);
        check.due("a fallen pin", keeper.freeStart(199), 0);
        keeper.set(0, -90);
        check.due("backwards", keeper.freeStart(1), 0);
        check.due("backwards, 60 turns", keeper.freeStart(60), 0);
        check.changesNothing(keeper, "freeStart(60)", () -> keeper.freeStart(60));
        keeper.set(3, 9999);
        keeper.set(0, 90);
        check.due("too low for all", keeper.freeStart(200), 0);
        for (int wrong : new int[] {0, -1, 201, Integer.MAX_VALUE, Integer.MIN_VALUE}) {
            check.refused(keeper, "freeStart(" + wrong + ")", IllegalArgumentException.class,
                    () -> keeper.freeStart(wrong));
        }
        // 3000 minutes in 200 turns; a pin every 300 minutes leaves no start.
        FoucaultKeeper ring = Check.loaded("F+90060009999");
        for (int k = 0; k < 36; k++) {
            ring.addPin(300 * k);
        }
        check.due("a ring without a gap", ring.freeStart(200), -9);
        check.due("20 turns meet one", ring.freeStart(20), -9);
        check.due("19 turns go free", ring.freeStart(19), 0);
        ring.removePin(35);
        check.due("a gap at the end", ring.freeStart(39), 10200);
        FoucaultKeeper rest = Check.loaded("F+50240055000p000");
        rest.addPin(3);
        check.due("without a rest", rest.freeStart(1), 0);
        rest.swing(2);
        rest.raise();
        rest.removePin(1);
        rest.addPin(3);
        check.due("the present rest counts", rest.freeStart(1), 60);
    }

    private static void promise28(Check check) {
        FoucaultKeeper keeper = Check.loaded("F+90900009999p000");
        check.due("a pin right here", keeper.next(), -9);
        keeper.addPin(2001);
        check.due("2001 turns", keeper.next(), -9);
        keeper.addPin(2000);
        check.due("2000 turns", keeper.next(), 2);
        keeper.addPin(1999);
        check.due("1999 turns", keeper.next(), 3);
        check.changesNothing(keeper, "next()", keeper::next);
        keeper.set(0, -90);
        check.due("backwards", keeper.next(), -9);
        FoucaultKeeper turn = Check.loaded("F+90060009999");
        turn.addPin(14);
        turn.addPin(13);
        turn.addPin(15);
        check.due("the first of one turn", turn.next(), 1);
        turn.set(0, -90);
        turn.nudge(16);
        check.due("the first of one turn, backwards", turn.next(), 2);
        turn.set(3, 9999);
        check.due("too low", turn.next(), -9);
    }
}
