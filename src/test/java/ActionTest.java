/** Promises 11 to 19: the turns, and the other actions. */
public final class ActionTest {
    public static void main(String[] args) {
        Check check = new Check();
        promise11(check);
        promise11Hits(check);
        promise11Height(check);
        promise12(check);
        promise13(check);
        promise14(check);
        promise15(check);
        promise15Full(check);
        promise16(check);
        promise17(check);
        promise17Full(check);
        promise18(check);
        promise19(check);
        promise19EachAction(check);
        check.end();
    }

    private static void promise11(Check check) {
        FoucaultKeeper keeper = new FoucaultKeeper();
        for (int wrong : new int[] {0, -1, 501, Integer.MAX_VALUE, Integer.MIN_VALUE}) {
            check.refused(keeper, "swing(" + wrong + ")", IllegalArgumentException.class, () -> keeper.swing(wrong));
        }
        check.due("swing(500)", keeper.swing(500), 0);
        // 500 * 900 * 766 = 344700000 = 1436 * 240000 + 60000
        check.due("the direction", keeper.about(5), 1436);
        check.due("the rest", keeper.about(6), 60000);
        check.due("the clock", keeper.about(8), 500);
        check.due("one action", keeper.undo(), 0);
        FoucaultKeeper south = Check.loaded("F-50240055000");
        south.swing(1);
        check.due("south: the direction", south.about(5), 10797);
        check.due("south: the rest", south.about(6), 720000 - 689400);
        FoucaultKeeper equator = Check.loaded("F+00240055000p000");
        check.due("equator: swing(500)", equator.swing(500), 0);
        check.due("equator: the direction", equator.about(5), 0);
        FoucaultKeeper round = Check.loaded("F+90060009999");
        round.swing(500);
        check.due("round: a turn short", round.swing(219), 0);
        check.due("round: a turn short, the direction", round.about(5), 10785);
        round.swing(1);
        check.due("round: the direction", round.about(5), 0);
    }

    private static void promise11Hits(Check check) {
        FoucaultKeeper keeper = Check.loaded("F+90060004100p000");
        keeper.addPin(15);
        keeper.addPin(5);
        keeper.addPin(10);
        // 5 takes the height to 4050, 10 to 4000, which is still the reach; 15 to 3950.
        check.due("three in a turn", keeper.swing(1), 3);
        check.due("the height", keeper.about(7), 3949);
        check.due("the latest hit", keeper.hit(0, 0), 15);
        check.due("its height", keeper.hit(0, 2), 3950);
        check.due("its clock", keeper.hit(0, 1), 0);
        check.due("the pin at the start stands", keeper.pin(0, 1), 1);
        FoucaultKeeper low = Check.loaded("F+90060004049");
        low.addPin(5);
        low.addPin(6);
        check.due("the first takes the reach away", low.swing(1), 1);
        check.due("the second stands", low.pin(1, 1), 1);
        FoucaultKeeper shy = Check.loaded("F+90060003999");
        shy.addPin(5);
        check.due("below the reach", shy.swing(1), 0);
        FoucaultKeeper back = Check.loaded("F-90060009000");
        back.addPin(10785);
        back.addPin(10799);
        back.addPin(0);
        back.addPin(10784);
        check.due("backwards", back.swing(1), 2);
        check.due("backwards: the latest one", back.hit(0, 0), 10785);
        check.due("backwards: a fallen one is not hit again", back.swing(1), 1);
        // The seventh turn ends right at 20, the eighth goes on by 2 only.
        FoucaultKeeper near = Check.loaded("F+50240059999");
        near.addPin(20);
        near.addPin(22);
        check.due("a pin just behind one at a turn's end", near.swing(8), 2);
        FoucaultKeeper all = Check.loaded("F+90060009999p000");
        all.set(4, 99);
        check.due("the start's own pin, behind a round: before", all.swing(500) + all.swing(219), 0);
        check.due("the start's own pin, behind a round", all.swing(1), 1);
    }

    private static void promise11Height(Check check) {
        FoucaultKeeper still = Check.loaded("F+90060000000");
        still.set(4, 50);
        still.addPin(5);
        check.due("still: swing(7)", still.swing(7), 0);
        check.due("still: the height", still.about(7), 0);
        check.due("still: the direction", still.about(5), 0);
        check.due("still: the clock", still.about(8), 7);
        FoucaultKeeper hit = Check.loaded("F+90060000040");
        hit.set(3, 1);
        hit.set(4, 30);
        hit.addPin(5);
        hit.addPin(6);
        check.due("a hit takes all the height", hit.swing(1), 1);
        check.due("its height", hit.hit(0, 2), 0);
        check.due("it goes on in that turn", hit.about(5), 15);
        check.due("it is driven in that turn", hit.about(7), 30);
        FoucaultKeeper drag = Check.loaded("F+90060999999");
        drag.swing(1);
        check.due("9999 and the greatest drag", drag.about(7), 9999 - 98 - 1);
        FoucaultKeeper whole = Check.loaded("F+90060025000");
        whole.swing(1);
        check.due("5000 * 2 / 10000 is 1", whole.about(7), 4998);
        FoucaultKeeper drive = Check.loaded("F+90060009998");
        drive.set(4, 99);
        drive.swing(1);
        check.due("not above 9999", drive.about(7), 9999);
        FoucaultKeeper one = Check.loaded("F+90060000001");
        one.swing(1);
        check.due("1 becomes 0", one.about(7), 0);
        check.due("1 goes on", one.about(5), 15);
        one.swing(1);
        check.due("0 does not", one.about(5), 15);
        FoucaultKeeper driven = Check.loaded("F+90060000001");
        driven.set(4, 3);
        driven.swing(1);
        check.due("first drag, then drive", driven.about(7), 3);
    }

    private static void promise12(Check check) {
        int[] least = {-90, 60, 0, 1, 0};
        int[] most = {90, 900, 99, 9999, 99};
        int[] first = {50, 240, 5, 4000, 0};
        FoucaultKeeper keeper = new FoucaultKeeper();
        for (int what = 0; what < 5; what++) {
            int w = what;
            check.due("set " + w + " to the least", keeper.set(w, least[w]), first[w]);
            check.due("set " + w + " to the most", keeper.set(w, most[w]), least[w]);
            check.due("set " + w + " again", keeper.set(w, most[w]), most[w]);
            check.due("about(" + w + ")", keeper.about(w), most[w]);
            check.refused(keeper, "set " + w + " too low", IllegalArgumentException.class,
                    () -> keeper.set(w, least[w] - 1));
            check.refused(keeper, "set " + w + " too high", IllegalArgumentException.class,
                    () -> keeper.set(w, most[w] + 1));
        }
        for (int what : new int[] {-1, 5, Integer.MAX_VALUE, Integer.MIN_VALUE}) {
            check.refused(keeper, "set " + what, IllegalArgumentException.class, () -> keeper.set(what, 70));
        }
        FoucaultKeeper rest = new FoucaultKeeper();
        rest.swing(1);
        for (int what : new int[] {0, 2, 3, 4}) {
            rest.set(what, 50);
            check.due("the rest behind set " + what, rest.about(6), 209400);
        }
        check.due("the same turns in an hour", rest.set(1, 240), 240);
        check.due("the rest behind it", rest.about(6), 0);
    }

    private static void promise13(Check check) {
        FoucaultKeeper keeper = new FoucaultKeeper();
        check.due("push(1)", keeper.push(1), 5001);
        check.due("push(4997)", keeper.push(4997), 9998);
        check.due("push(2)", keeper.push(2), 9999);
        check.due("push(9999)", keeper.push(9999), 9999);
        check.due("about(7)", keeper.about(7), 9999);
        for (int wrong : new int[] {0, -1, 10000, Integer.MAX_VALUE, Integer.MIN_VALUE}) {
            check.refused(keeper, "push(" + wrong + ")", IllegalArgumentException.class, () -> keeper.push(wrong));
        }
        check.due("a push makes it swing again", Check.loaded("F+50240050000").push(9999), 9999);
    }

    private static void promise14(Check check) {
        FoucaultKeeper keeper = Check.loaded("F+50240053000p001");
        keeper.set(3, 1);
        keeper.swing(1);
        check.due("nudge(600)", keeper.nudge(600), 602);
        check.due("the height", keeper.about(7), 2998 - 1200);
        check.due("the rest", keeper.about(6), 0);
        check.due("no pin is hit", keeper.pin(0, 1), 1);
        check.due("nudge(-600)", keeper.nudge(-600), 2);
        check.due("the height", keeper.about(7), 598);
        check.due("nudge(-3)", keeper.nudge(-3), 10799);
        check.due("the height", keeper.about(7), 592);
        keeper.swing(1);
        check.due("nudge(0)", keeper.nudge(0), 1);
        check.due("the rest behind nudge(0)", keeper.about(6), 0);
        check.due("nudge(300)", keeper.nudge(300), 301);
        check.due("the height is not below 0", keeper.about(7), 0);
        for (int wrong : new int[] {-601, 601, Integer.MAX_VALUE, Integer.MIN_VALUE}) {
            check.refused(keeper, "nudge(" + wrong + ")", IllegalArgumentException.class, () -> keeper.nudge(wrong));
        }
        check.due("around", Check.loaded("F+50240055000").nudge(-1), 10799);
    }

    private static void promise15(Check check) {
        FoucaultKeeper keeper = new FoucaultKeeper();
        check.due("addPin(0), right here", keeper.addPin(0), 0);
        check.due("it stands", keeper.pin(0, 1), 1);
        check.due("it is not hit", keeper.about(11), 0);
        check.due("addPin(10799)", keeper.addPin(10799), 1);
        check.refused(keeper, "addPin(-1)", IllegalArgumentException.class, () -> keeper.addPin(-1));
        check.refused(keeper, "addPin(10800)", IllegalArgumentException.class, () -> keeper.addPin(10800));
        check.refused(keeper, "addPin(0) again", IllegalStateException.class, () -> keeper.addPin(0));
        check.due("addPin(2)", keeper.addPin(2), 2);
        keeper.swing(1);
        check.due("it has fallen", keeper.pin(2, 1), 0);
        check.refused(keeper, "addPin where one has fallen", IllegalStateException.class, () -> keeper.addPin(2));
    }

    private static void promise15Full(Check check) {
        FoucaultKeeper keeper = new FoucaultKeeper();
        for (int k = 0; k < 40; k++) {
            check.due("pin " + k, keeper.addPin(100 + k), k);
        }
        check.refused(keeper, "addPin of 41", IllegalStateException.class, () -> keeper.addPin(99));
        check.refused(keeper, "addPin(10800) of 41", IllegalArgumentException.class, () -> keeper.addPin(10800));
        keeper.removePin(39);
        check.due("there is room again", keeper.addPin(99), 39);
    }

    private static void promise16(Check check) {
        FoucaultKeeper keeper = new FoucaultKeeper();
        check.refused(keeper, "removePin(0) of none", IndexOutOfBoundsException.class, () -> keeper.removePin(0));
        for (int k = 0; k < 40; k++) {
            keeper.addPin(k == 20 ? 2 : 100 * (k + 1));
        }
        keeper.swing(1);
        check.due("removePin(5)", keeper.removePin(5), 600);
        check.due("removePin(0)", keeper.removePin(0), 100);
        check.due("the new 0", keeper.pin(0, 0), 200);
        check.due("the new 4", keeper.pin(4, 0), 700);
        check.due("20 is 18 now, and fallen", keeper.pin(18, 1), 0);
        check.due("19 is 17 now, and stands", keeper.pin(17, 1), 1);
        check.due("the new 37", keeper.pin(37, 0), 4000);
        check.due("pins", keeper.about(9), 38);
        check.due("removePin(37)", keeper.removePin(37), 4000);
        check.refused(keeper, "removePin(37)", IndexOutOfBoundsException.class, () -> keeper.removePin(37));
        check.due("its place is free again", keeper.addPin(600), 37);
        FoucaultKeeper two = Check.loaded("F+50240055000p001p002");
        for (int wrong : new int[] {-1, 2, 40, Integer.MAX_VALUE, Integer.MIN_VALUE}) {
            check.refused(two, "removePin(" + wrong + ")", IndexOutOfBoundsException.class, () -> two.removePin(wrong));
        }
    }

    private static void promise17(Check check) {
        FoucaultKeeper keeper = Check.loaded("F+90060009000p000p001");
        check.due("raise of none", keeper.raise(), 0);
        keeper.addPin(10);
        keeper.addPin(11);
        keeper.swing(1);
        check.due("raise", keeper.raise(), 2);
        check.due("all stand", keeper.about(10), 4);
        check.due("the ledger stays", keeper.about(11), 2);
        check.due("raise again", keeper.raise(), 0);
        check.due("raise is an action each time", keeper.undo(), 5);
        keeper.swing(500);
        keeper.swing(220);
        check.due("a raised pin is hit again", keeper.hit(0, 0), 11);
        check.due("and the pin at the start", keeper.hit(2, 0), 0);
    }

    private static void promise17Full(Check check) {
        FoucaultKeeper keeper = Check.loaded("F+90060009999");
        for (int place = 1; place <= 40; place++) {
            keeper.addPin(place);
        }
        check.due("40 pins fall", keeper.swing(3), 40);
        check.due("40 pins are raised", keeper.raise(), 40);
        check.due("40 pins stand", keeper.about(10), 40);
    }

    private static void promise18(Check check) {
        FoucaultKeeper keeper = new FoucaultKeeper();
        for (int i = 0; i < 20; i++) {
            check.due("read " + i, keeper.read(), i);
            keeper.swing(1);
        }
        check.refused(keeper, "read 20", IllegalStateException.class, keeper::read);
        check.due("readings", keeper.about(12), 20);
        check.due("the clock of the last", keeper.reading(19, 0), 19);
        keeper.undo();
        keeper.undo();
        check.due("undo takes a reading back", keeper.read(), 19);
    }

    private static void promise19(Check check) {
        FoucaultKeeper keeper = new FoucaultKeeper();
        for (int i = 1; i <= 16; i++) {
            keeper.push(i);
        }
        int height = 5000 + 16 * 17 / 2;
        for (int i = 16; i > 2; i--) {
            check.due("undo " + i, keeper.undo(), i - 3);
            height -= i;
            check.due("the height behind undo " + i, keeper.about(7), height);
        }
        check.refused(keeper, "undo of none", IllegalStateException.class, keeper::undo);
        keeper.push(5);
        check.due("undo behind a push", keeper.undo(), 0);
        check.due("the height behind it", keeper.about(7), height);
    }

    private static void promise19EachAction(Check check) {
        FoucaultKeeper keeper = Check.loaded("F+89061009000p000");
        keeper.addPin(3);
        keeper.swing(1);
        keeper.read();
        int remembered = 3;
        Check.Call[] actions = {
            () -> keeper.swing(3), () -> keeper.set(1, 70), () -> keeper.push(3), () -> keeper.nudge(-3),
            () -> keeper.addPin(17), () -> keeper.removePin(0), () -> keeper.raise(), () -> keeper.read(),
            () -> keeper.nudge(0)
        };
        String[] before = new String[actions.length];
        for (int i = 0; i < actions.length; i++) {
            before[i] = Check.look(keeper);
            actions[i].answer();
        }
        // Calls that are refused are not remembered.
        Check.Call[] refused = {
            () -> keeper.swing(0), () -> keeper.set(5, 0), () -> keeper.push(0), () -> keeper.nudge(999),
            () -> keeper.addPin(17), () -> keeper.removePin(9)
        };
        for (Check.Call call : refused) {
            check.due("it is refused", Check.answer(call).startsWith("throws") ? 1 : 0, 1);
        }
        for (int i = actions.length - 1; i >= 0; i--) {
            check.due("undo of action " + i, keeper.undo(), remembered + i);
            check.due("the state behind undo of action " + i, Check.look(keeper), before[i]);
        }
    }
}
