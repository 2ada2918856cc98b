/**
 * The boundary cases of the sections "What it is", "The public face" and "Terms", but for the text.
 *
 * <p>At the latitude 90 and 60 turns in an hour a turn goes on by 15 minutes without a rest, at 900
 * turns in an hour by 1; without drag it takes 1 away from the height.
 */
public final class TermsEdgeTest {
    private static final Class<IllegalArgumentException> ARGUMENT = IllegalArgumentException.class;
    private static final Class<IllegalStateException> STATE = IllegalStateException.class;
    private static final Class<IndexOutOfBoundsException> INDEX = IndexOutOfBoundsException.class;

    public static void main(String[] args) {
        Sentences all = new Sentences();
        object(all);
        swing(all);
        settings(all);
        turn(all);
        fall(all);
        drag(all);
        pins(all);
        ledger(all);
        readings(all);
        actions(all);
        exceptions(all);
        all.end();
    }

    private static void object(Sentences all) {
        all.holds("What it is", "An object is used for at most 512 calls after it has been made",
                TermsEdgeTest::fiveHundredAndTwelveCalls);
        all.holds("The public face", "`NONE = -9`: There is no such result.",
                check -> check.due("NONE", FoucaultKeeper.NONE, -9));
        all.holds("The public face", "these and all following methods up to the save slots change nothing.",
                TermsEdgeTest::changeNothing);
    }

    private static void changeNothing(Check check) {
        Known.answers(check, "move(0, 1)", 60, k -> k.move(0, 1));
        Known.answers(check, "time(0, 1)", 4, k -> k.time(0, 1));
        Known.answers(check, "latitudeFrom(0, 1)", 90, k -> k.latitudeFrom(0, 1));
        // 500 turns from 135 are 7500 minutes on.
        Known.answers(check, "ahead(500, 0)", 7635, k -> k.ahead(500, 0));
        Known.answers(check, "fallsAfter(2)", 1, k -> k.fallsAfter(2));
        Known.answers(check, "lowAfter(0)", FoucaultKeeper.NONE, k -> k.lowAfter(0));
        Known.answers(check, "pushFor(200)", 0, k -> k.pushFor(200));
        Known.answers(check, "freeStart(200)", 180, k -> k.freeStart(200));
        Known.answers(check, "next()", 2, FoucaultKeeper::next);
        Known.answers(check, "runScript(3, ..)", FoucaultKeeper.NONE, k -> k.runScript(3, 21900_50000_10500L));
        // Whatever the rounds do, they end at some direction with at most 3 pins fallen.
        Known.answers(check, "simulate(7, 60)", 1, k -> k.simulate(7, 60) < 40000 ? 1 : 0);
    }

    private static void fiveHundredAndTwelveCalls(Check check) {
        int[] asked = {8, 5};
        // 255000 turns: 255000 * 900 * 766 / 240000 = 732487.5 minutes, which is 67 rounds and 8887.
        long[] due = {255000, 8887};
        for (int i = 0; i < asked.length; i++) {
            FoucaultKeeper keeper = new FoucaultKeeper();
            keeper.set(4, 99);
            for (int call = 2; call <= 511; call++) {
                keeper.swing(500);
            }
            check.due("call 512, about(" + asked[i] + ")", keeper.about(asked[i]), due[i]);
        }
    }

    private static void swing(Sentences all) {
        String place = "The swing";
        all.holds(place, "they are counted around, 0 behind 10799", check -> {
            FoucaultKeeper on = Check.loaded("F+90900009000");
            check.due("a minute back from 0", on.nudge(-1), 10799);
            on.swing(1);
            check.due("a turn on from 10799", on.about(5), 0);
            FoucaultKeeper back = Check.loaded("F-90900009000");
            back.swing(1);
            check.due("a turn back from 0", back.about(5), 10799);
            check.due("a minute on from 10799", back.nudge(1), 0);
        });
        all.holds(place, "The pendulum has a direction, at first 0, a rest, at first 0", check -> {
            FoucaultKeeper keeper = new FoucaultKeeper();
            check.due("the direction", keeper.about(5), 0);
            check.due("the rest", keeper.about(6), 0);
        });
        all.holds(place, "a height from 0 to 9999 (how far it swings out), at first 5000", check -> {
            FoucaultKeeper keeper = new FoucaultKeeper();
            check.due("at first", keeper.about(7), 5000);
            check.due("4999 more", keeper.push(4999), 9999);
            check.due("and 1 more", keeper.push(1), 9999);
            for (int i = 0; i < 9; i++) {
                keeper.nudge(600);
            }
            check.due("9999 - 9 * 1200 would be below 0", keeper.about(7), 0);
        });
        all.holds(place, "for L = 5 * k it is the entry k of this row, counted from 0", check -> {
            int[] row = {0, 87, 174, 259, 342, 423, 500, 574, 643, 707, 766, 819, 866, 906, 940, 966, 985, 996, 1000};
            FoucaultKeeper keeper = new FoucaultKeeper();
            for (int k = 0; k < row.length; k++) {
                check.due("sine(" + 5 * k + ")", keeper.sine(5 * k), row[k]);
            }
        });
        all.holds(place, "for other L it is e + (f - e) * (L % 5) / 5, rounded down", check -> {
            FoucaultKeeper keeper = new FoucaultKeeper();
            for (int[] pair : BETWEEN) {
                check.due("sine(" + pair[0] + ")", keeper.sine(pair[0]), pair[1]);
            }
        });
        all.holds(place, "For a negative latitude it is the negative of the sine of -L.", check -> {
            FoucaultKeeper keeper = new FoucaultKeeper();
            // 17.4 rounded down is 17; -17.4 rounded down would be -18.
            check.due("sine(-1)", keeper.sine(-1), -17);
            check.due("sine(-5)", keeper.sine(-5), -87);
            check.due("sine(-90)", keeper.sine(-90), -1000);
            for (int[] pair : BETWEEN) {
                check.due("sine(-" + pair[0] + ")", keeper.sine(-pair[0]), -pair[1]);
            }
        });
    }

    /** The sines between the entries of the row, reckoned from it by hand. */
    private static final int[][] BETWEEN = {
        {1, 17}, {2, 34}, {3, 52}, {4, 69}, {6, 104}, {7, 121}, {8, 139}, {9, 156}, {11, 191}, {12, 208},
        {13, 225}, {14, 242}, {16, 275}, {17, 292}, {18, 308}, {19, 325}, {21, 358}, {22, 374}, {23, 390}, {24, 406},
        {26, 438}, {27, 453}, {28, 469}, {29, 484}, {31, 514}, {32, 529}, {33, 544}, {34, 559}, {36, 587}, {37, 601},
        {38, 615}, {39, 629}, {41, 655}, {42, 668}, {43, 681}, {44, 694}, {46, 718}, {47, 730}, {48, 742}, {49, 754},
        {51, 776}, {52, 787}, {53, 797}, {54, 808}, {56, 828}, {57, 837}, {58, 847}, {59, 856}, {61, 874}, {62, 882},
        {63, 890}, {64, 898}, {66, 912}, {67, 919}, {68, 926}, {69, 933}, {71, 945}, {72, 950}, {73, 955}, {74, 960},
        {76, 969}, {77, 973}, {78, 977}, {79, 981}, {81, 987}, {82, 989}, {83, 991}, {84, 993}, {86, 996}, {87, 997},
        {88, 998}, {89, 999}
    };

    private static void settings(Sentences all) {
        String place = "The swing";
        all.holds(place, "the latitude (0), -90 to 90 degrees, at first 50", check -> setting(check, 0, -90, 90, 50));
        all.holds(place, "the turns in an hour (1), 60 to 900, at first 240", check -> setting(check, 1, 60, 900, 240));
        all.holds(place, "the drag (2), 0 to 99, at first 5", check -> setting(check, 2, 0, 99, 5));
        all.holds(place, "the reach (3), 1 to 9999, at first 4000", check -> setting(check, 3, 1, 9999, 4000));
        all.holds(place, "the drive (4), 0 to 99, at first 0", check -> setting(check, 4, 0, 99, 0));
    }

    private static void setting(Check check, int what, int least, int most, int first) {
        FoucaultKeeper keeper = new FoucaultKeeper();
        check.due("at first", keeper.about(what), first);
        check.due("set to the least", keeper.set(what, least), first);
        check.due("the least", keeper.about(what), least);
        check.refused(keeper, "set below the least", ARGUMENT, () -> keeper.set(what, least - 1));
        check.due("set to the most", keeper.set(what, most), least);
        check.due("the most", keeper.about(what), most);
        check.refused(keeper, "set above the most", ARGUMENT, () -> keeper.set(what, most + 1));
        check.refused(keeper, "set far below", ARGUMENT, () -> keeper.set(what, Integer.MIN_VALUE));
        check.refused(keeper, "set far above", ARGUMENT, () -> keeper.set(what, Integer.MAX_VALUE));
    }

    private static void turn(Sentences all) {
        String place = "A turn";
        all.holds(place, "If the height is 0 then, only part 4 happens.", check -> {
            FoucaultKeeper keeper = Check.loaded("F+50240000001");
            keeper.set(3, 1);
            keeper.set(4, 0);
            keeper.swing(1);
            keeper.set(4, 50);
            keeper.addPin(3);
            check.due("3 turns at the height 0", keeper.swing(3), 0);
            // 900 * 766 is 2 * 240000 + 209400.
            check.due("the direction", keeper.about(5), 2);
            check.due("the rest", keeper.about(6), 209400);
            check.due("the height", keeper.about(7), 0);
            check.due("the clock", keeper.about(8), 4);
            check.due("the pin ahead", keeper.pin(0, 1), 1);
        });
        all.holds(place, "(A height that becomes 0 in part 2 changes nothing in what follows.)", check -> {
            FoucaultKeeper keeper = Check.loaded("F+90060000040");
            keeper.set(3, 1);
            keeper.set(4, 30);
            keeper.addPin(5);
            check.due("a turn", keeper.swing(1), 1);
            check.due("the height behind the hit", keeper.hit(0, 2), 0);
            check.due("the direction", keeper.about(5), 15);
            check.due("the height, driven", keeper.about(7), 30);
            check.due("the clock", keeper.about(8), 1);
        });
        all.holds(place, "As long as the rest is at least unit, unit is taken from it, and the direction goes on by 1",
                TermsEdgeTest::goesOn);
        all.holds(place, "as long as it is below 0, unit is added to it, and the direction goes back by 1",
                TermsEdgeTest::goesBack);
        all.holds(place, "The clock, which counts turns, at first 0, increases by 1.", check -> {
            FoucaultKeeper keeper = Check.loaded("F+90060000001");
            check.due("at first", keeper.about(8), 0);
            keeper.swing(1);
            check.due("behind a turn", keeper.about(8), 1);
            keeper.swing(1);
            check.due("behind a turn at the height 0", keeper.about(8), 2);
        });
    }

    private static void goesOn(Check check) {
        // {latitude, turns in an hour, the direction and the rest behind a turn and behind two}
        int[][] due = {
            {90, 900, 1, 0, 2, 0},
            {89, 900, 0, 899100, 1, 898200},
            {90, 60, 15, 0, 30, 0},
            {89, 60, 14, 59100, 29, 58200},
            {1, 900, 0, 15300, 0, 30600},
            {0, 60, 0, 0, 0, 0}
        };
        turns(check, due);
    }

    private static void goesBack(Check check) {
        int[][] due = {
            {-90, 900, 10799, 0, 10798, 0},
            {-89, 900, 10799, 900, 10798, 1800},
            {-90, 60, 10785, 0, 10770, 0},
            {-1, 900, 10799, 884700, 10799, 869400}
        };
        turns(check, due);
        FoucaultKeeper keeper = Check.loaded("F+01900009000");
        keeper.swing(1);
        keeper.set(0, -1);
        keeper.swing(1);
        check.due("the rest taken to 0", keeper.about(6), 0);
        check.due("the direction then", keeper.about(5), 0);
        keeper.swing(1);
        check.due("the rest taken below 0", keeper.about(6), 884700);
        check.due("the direction then", keeper.about(5), 10799);
    }

    private static void turns(Check check, int[][] due) {
        for (int[] row : due) {
            FoucaultKeeper keeper = new FoucaultKeeper();
            keeper.set(0, row[0]);
            keeper.set(1, row[1]);
            String told = " at " + row[0] + " with " + row[1] + " turns";
            for (int turn = 1; turn <= 2; turn++) {
                keeper.swing(1);
                check.due("the direction behind turn " + turn + told, keeper.about(5), row[2 * turn]);
                check.due("the rest behind turn " + turn + told, keeper.about(6), row[2 * turn + 1]);
            }
        }
    }

    private static void fall(Sentences all) {
        String place = "A turn";
        all.holds(place, "Each time the direction has gone on or back, a pin that stands there falls", check -> {
            for (int sign : new int[] {1, -1}) {
                int[][] alone = {{0, 0}, {1, 1}, {15, 1}, {16, 0}};
                for (int[] pair : alone) {
                    FoucaultKeeper one = Check.loaded("F+90060009000");
                    one.set(0, 90 * sign);
                    one.addPin((10800 + sign * pair[0]) % 10800);
                    check.due("a pin alone, " + sign * pair[0] + " away", one.swing(1), pair[1]);
                }
                FoucaultKeeper keeper = Check.loaded("F+90060009000");
                keeper.set(0, 90 * sign);
                for (int way : new int[] {0, 1, 15, 16}) {
                    keeper.addPin((10800 + sign * way) % 10800);
                }
                String told = sign > 0 ? "on" : "back";
                check.due(told + ": a turn", keeper.swing(1), 2);
                check.due(told + ": the pin at the start", keeper.pin(0, 1), 1);
                check.due(told + ": the pin a minute away", keeper.pin(1, 1), 0);
                check.due(told + ": the pin at the turn's end", keeper.pin(2, 1), 0);
                check.due(told + ": the pin a minute behind it", keeper.pin(3, 1), 1);
                keeper.nudge(-15 * sign);
                keeper.addPin((10800 + sign * 7) % 10800);
                check.due(told + ": the turn again, with a new pin", keeper.swing(1), 1);
                check.due(told + ": the hits", keeper.about(11), 3);
            }
        });
        all.holds(place, "a pin that stands there [at 0 and at 10799]", check -> {
            FoucaultKeeper on = Check.loaded("F+90900009000p000");
            on.nudge(-1);
            check.due("on from 10799 to 0", on.swing(1), 1);
            FoucaultKeeper back = Check.loaded("F-90900009000");
            back.addPin(10799);
            check.due("back from 0 to 10799", back.swing(1), 1);
            FoucaultKeeper round = Check.loaded("F+90060009999p000");
            round.set(3, 1);
            check.due("719 turns from a pin", round.swing(500) + round.swing(219), 0);
            check.due("once around to it", round.swing(1), 1);
        });
        all.holds(place, "if the height (as it is at this moment) is at least the reach", check -> {
            FoucaultKeeper just = Check.loaded("F+90060004000");
            just.addPin(15);
            check.due("just the reach", just.swing(1), 1);
            FoucaultKeeper low = Check.loaded("F+90060003999");
            low.addPin(15);
            check.due("one below the reach", low.swing(1), 0);
            FoucaultKeeper twice = Check.loaded("F+90060004050");
            twice.addPin(5);
            twice.addPin(6);
            twice.addPin(7);
            check.due("the first takes it to the reach, the second below", twice.swing(1), 2);
            FoucaultKeeper once = Check.loaded("F+90060004049");
            once.addPin(5);
            once.addPin(6);
            check.due("the first takes it below the reach", once.swing(1), 1);
            check.due("the second", once.pin(1, 1), 1);
            FoucaultKeeper back = Check.loaded("F-90060004049");
            back.addPin(10794);
            back.addPin(10795);
            check.due("backwards", back.swing(1), 1);
            check.due("backwards, the one that is met first", back.pin(1, 1), 0);
        });
        all.holds(place, "it is hit, and the height decreases by 50, but not below 0", check -> {
            int[][] due = {{51, 1}, {50, 0}, {49, 0}, {1, 0}, {9999, 9949}};
            for (int[] pair : due) {
                FoucaultKeeper keeper = new FoucaultKeeper();
                keeper.set(0, 90);
                keeper.set(1, 60);
                keeper.set(3, 1);
                for (int i = 0; i < 5; i++) {
                    keeper.nudge(i % 2 == 0 ? 600 : -600);
                }
                keeper.push(pair[0]);
                keeper.addPin(605);
                keeper.swing(1);
                check.due("the height behind a hit at " + pair[0], keeper.hit(0, 2), pair[1]);
            }
        });
    }

    private static void drag(Sentences all) {
        String place = "A turn";
        all.holds(place, "The height decreases by height * drag / 10000 + 1, the division rounded down", check -> {
            // {drag, height, the height behind a turn}: 10000 must be full for one more to be taken.
            int[][] due = {{0, 9999, 9998}, {1, 9999, 9998}, {2, 4999, 4998}, {2, 5000, 4998}, {5, 2000, 1998},
                {5, 1999, 1998}, {99, 9999, 9900}, {99, 101, 100}, {99, 102, 100}};
            for (int[] row : due) {
                check.due("drag " + row[0] + " at " + row[1], behindTurn(row[0], row[1], 0), row[2]);
            }
            FoucaultKeeper hit = Check.loaded("F+90060025000");
            hit.addPin(5);
            hit.swing(1);
            check.due("the drag is that of the height behind the hits", hit.about(7), 4949);
        });
        all.holds(place, "but not below 0; then it increases by the drive", check -> {
            check.due("1 without a drive", behindTurn(0, 1, 0), 0);
            check.due("1 with a drive of 3", behindTurn(0, 1, 3), 3);
            FoucaultKeeper hit = Check.loaded("F+90060000050");
            hit.set(3, 1);
            hit.set(4, 3);
            hit.addPin(5);
            hit.swing(1);
            check.due("0 behind a hit, with a drive of 3", hit.about(7), 3);
        });
        all.holds(place, "then it increases by the drive, but not above 9999", check -> {
            check.due("9900 with 99", behindTurn(0, 9900, 99), 9998);
            check.due("9901 with 99", behindTurn(0, 9901, 99), 9999);
            check.due("9902 with 99", behindTurn(0, 9902, 99), 9999);
            check.due("9999 with 99", behindTurn(0, 9999, 99), 9999);
            check.due("9999 with 1", behindTurn(0, 9999, 1), 9999);
            check.due("9999 with 0", behindTurn(0, 9999, 0), 9998);
        });
    }

    private static int behindTurn(int drag, int height, int drive) {
        FoucaultKeeper keeper = Check.loaded(String.format("F+00060%02d%04d", drag, height));
        keeper.set(4, drive);
        keeper.swing(1);
        return keeper.about(7);
    }

    private static void pins(Sentences all) {
        String place = "Pins and hits";
        all.holds(place, "There are at most 40 pins, numbered from 0 in the order in which they were added", check -> {
            FoucaultKeeper keeper = new FoucaultKeeper();
            for (int k = 0; k < 40; k++) {
                check.due("pin " + k, keeper.addPin(10799 - k), k);
            }
            check.refused(keeper, "one more", STATE, () -> keeper.addPin(0));
            check.due("pins", keeper.about(9), 40);
            for (int k = 0; k < 40; k++) {
                check.due("the place of pin " + k, keeper.pin(k, 0), 10799 - k);
            }
        });
        all.holds(place, "(if one is removed, the numbers of later ones decrease by 1)", check -> {
            for (int gone : new int[] {0, 1, 2, 3}) {
                FoucaultKeeper keeper = Check.loaded("F+90060009000");
                int[] places = {30, 5, 20, 10};
                for (int at : places) {
                    keeper.addPin(at);
                }
                // 5 and 10, the pins 1 and 3, fall.
                keeper.swing(1);
                keeper.removePin(gone);
                for (int k = 0; k < 3; k++) {
                    int was = k < gone ? k : k + 1;
                    check.due("without " + gone + ": the place of " + k, keeper.pin(k, 0), places[was]);
                    check.due("without " + gone + ": whether " + k + " stands", keeper.pin(k, 1), 1 - was % 2);
                }
                check.due("without " + gone + ": a new one", keeper.addPin(40), 3);
            }
        });
        all.holds(place, "A pin has a place, a direction at which no other pin is, and stands or has fallen.", check -> {
            FoucaultKeeper keeper = Check.loaded("F+90060009000");
            keeper.addPin(5);
            check.refused(keeper, "addPin where one stands", STATE, () -> keeper.addPin(5));
            keeper.swing(1);
            check.refused(keeper, "addPin where one has fallen", STATE, () -> keeper.addPin(5));
            keeper.removePin(0);
            check.due("addPin where one was", keeper.addPin(5), 0);
            check.due("it stands", keeper.pin(0, 1), 1);
        });
    }

    /** The pins fall at the places 1, 2, 3 and so on, one in each turn. */
    private static FoucaultKeeper withHits(int hits) {
        FoucaultKeeper keeper = Check.loaded("F+90900009999");
        for (int place = 1; place <= 40; place++) {
            keeper.addPin(place);
        }
        keeper.swing(hits);
        return keeper;
    }

    private static void ledger(Sentences all) {
        String place = "Pins and hits";
        all.holds(place, "The ledger has the last 20 hits", check -> {
            for (int hits : new int[] {1, 19, 20, 21, 39, 40}) {
                FoucaultKeeper keeper = withHits(hits);
                int kept = Math.min(hits, 20);
                check.due(hits + " hits: the ledger", keeper.about(11), kept);
                check.due(hits + " hits: the latest", keeper.hit(0, 0), hits);
                check.due(hits + " hits: the oldest", keeper.hit(kept - 1, 0), hits - kept + 1);
                check.due(hits + " hits: before the oldest", keeper.hit(kept, 0), -9);
            }
            FoucaultKeeper over = withHits(20);
            over.swing(20);
            over.undo();
            for (int j = 0; j < 20; j++) {
                check.due("undo of 20 hits more: hit " + j, over.hit(j, 0), 20 - j);
            }
        });
        all.holds(place, "(also of pins that are removed or stand again)", check -> {
            FoucaultKeeper keeper = withHits(21);
            keeper.removePin(20);
            keeper.removePin(0);
            keeper.raise();
            check.due("the ledger", keeper.about(11), 20);
            for (int j = 0; j < 20; j++) {
                check.due("the place of hit " + j, keeper.hit(j, 0), 21 - j);
            }
            keeper.nudge(-2);
            keeper.swing(1);
            check.due("one that stands again is hit again", keeper.hit(0, 0), 20);
            check.due("and its first hit is kept", keeper.hit(2, 0), 20);
        });
        all.holds(place, "each with its place, the clock ahead of its turn, and the height just behind the hit", check -> {
            FoucaultKeeper keeper = Check.loaded("F+90060109000");
            keeper.addPin(10);
            keeper.addPin(15);
            keeper.addPin(16);
            keeper.swing(2);
            // The first turn takes 100 from the height, and 8900 * 10 / 10000 + 1 = 9 behind the hits.
            int[][] due = {{16, 1, 8841}, {15, 0, 8900}, {10, 0, 8950}};
            for (int j = 0; j < due.length; j++) {
                for (int what = 0; what <= 2; what++) {
                    check.due("hit(" + j + ", " + what + ")", keeper.hit(j, what), due[j][what]);
                }
            }
        });
    }

    private static void readings(Sentences all) {
        String place = "Readings";
        all.holds(place, "there are at most 20 readings, numbered from 0 in the order in which they were made", check -> {
            FoucaultKeeper keeper = Check.loaded("F+90900009000");
            for (int i = 0; i < 20; i++) {
                check.due("read " + i, keeper.read(), i);
                keeper.swing(1);
            }
            check.refused(keeper, "one more", STATE, keeper::read);
            check.due("readings", keeper.about(12), 20);
            for (int i = 0; i < 20; i++) {
                check.due("the clock of reading " + i, keeper.reading(i, 0), i);
                check.due("the direction of reading " + i, keeper.reading(i, 1), i);
                check.due("the height of reading " + i, keeper.reading(i, 2), 9000 - i);
            }
            keeper.save(0);
            keeper.undo();
            keeper.undo();
            keeper.nudge(600);
            check.due("another 20th reading", keeper.read(), 19);
            keeper.restore(0);
            check.due("the 20th reading again", keeper.reading(19, 1), 19);
        });
        all.holds(place, "is the number of minutes, 0 to 10799, by which one goes on from the direction of i", check -> {
            FoucaultKeeper keeper = new FoucaultKeeper();
            keeper.read();
            keeper.read();
            keeper.nudge(-1);
            keeper.read();
            keeper.nudge(1);
            keeper.read();
            check.due("no move", keeper.move(0, 1), 0);
            check.due("a minute back", keeper.move(1, 2), 10799);
            check.due("a minute on, over 10799", keeper.move(2, 3), 1);
            check.due("a minute back and on", keeper.move(1, 3), 0);
        });
    }

    private static void actions(Sentences all) {
        String place = "Actions and undo";
        all.holds(place, "the state, which consists of everything but the text and the save slots", check -> {
            FoucaultKeeper keeper = Check.loaded("F+90060009000");
            keeper.swing(1);
            keeper.append('p');
            keeper.save(0);
            keeper.undo();
            check.due("the clock", keeper.about(8), 0);
            check.due("the slot", keeper.restore(0), 1);
            check.due("the text", keeper.clearText(), 14);
            check.due("restore leaves the text", keeper.restore(0) + keeper.clearText(), 1);
        });
        all.holds(place, "is an action, also if nothing becomes different", check -> {
            FoucaultKeeper keeper = Check.loaded("F+50240059999p001");
            Check.Call[] idle = {
                () -> keeper.set(0, 50), () -> keeper.set(1, 240), () -> keeper.push(1), () -> keeper.nudge(0), keeper::raise
            };
            String state = Check.look(keeper);
            for (int i = 0; i < idle.length; i++) {
                idle[i].answer();
                check.due("nothing is different behind action " + i, Check.look(keeper), state);
            }
            for (int left = idle.length - 1; left >= 0; left--) {
                check.due("undo", keeper.undo(), left);
            }
        });
        all.holds(place, "(undo is none)", check -> {
            FoucaultKeeper keeper = new FoucaultKeeper();
            keeper.push(1);
            keeper.push(2);
            check.due("undo", keeper.undo(), 1);
            check.due("undo takes no undo back", keeper.undo(), 0);
            check.due("the height", keeper.about(7), 5000);
            check.refused(keeper, "one undo more", STATE, keeper::undo);
        });
        all.holds(place, "At most 14 states are remembered; when one more is remembered, the oldest one is forgotten.",
                TermsEdgeTest::remembersFourteen);
        all.holds(place, "load and restore are not actions.", check -> {
            FoucaultKeeper keeper = Check.loaded("F+90060009000");
            check.refused(keeper, "undo behind load", STATE, keeper::undo);
            keeper.swing(1);
            keeper.save(0);
            check.due("save is none either", keeper.undo(), 0);
            keeper.restore(0);
            check.refused(keeper, "undo behind restore", STATE, keeper::undo);
            keeper.swing(1);
            check.due("undo of the swing alone", keeper.undo(), 0);
            check.due("the clock", keeper.about(8), 1);
        });
    }

    private static void remembersFourteen(Check check) {
        for (int actions : new int[] {1, 13, 14, 15, 16, 28, 29}) {
            FoucaultKeeper keeper = new FoucaultKeeper();
            int[] heights = new int[actions + 1];
            heights[0] = 5000;
            for (int i = 1; i <= actions; i++) {
                heights[i] = keeper.push(i);
            }
            int kept = Math.min(actions, 14);
            for (int back = 1; back <= kept; back++) {
                check.due(actions + " actions: undo " + back, keeper.undo(), kept - back);
                check.due(actions + " actions: the height behind it", keeper.about(7), heights[actions - back]);
            }
            check.refused(keeper, actions + " actions: one undo more", STATE, keeper::undo);
        }
        FoucaultKeeper keeper = new FoucaultKeeper();
        for (int i = 0; i < 14; i++) {
            keeper.push(1);
        }
        keeper.undo();
        keeper.undo();
        keeper.push(100);
        keeper.push(100);
        keeper.push(100);
        for (int left = 13; left >= 0; left--) {
            check.due("full again behind undos", keeper.undo(), left);
        }
        check.due("the oldest one left", keeper.about(7), 5001);
    }

    private static void exceptions(Sentences all) {
        String place = "Exceptions";
        all.holds(place, "If several exceptions apply to a call, the one that its description names first is thrown.",
                TermsEdgeTest::namedFirst);
        all.holds(place, "A call that throws an exception changes nothing. [what a full or an empty object refuses]",
                TermsEdgeTest::fullAndEmpty);
    }

    private static void namedFirst(Check check) {
        for (int wrong : new int[] {-1, 3, Integer.MAX_VALUE, Integer.MIN_VALUE}) {
            for (int what : new int[] {-1, 3}) {
                Known.refuses(check, "pin(" + wrong + ", " + what + ")", INDEX, k -> k.pin(wrong, what));
                Known.refuses(check, "reading(" + wrong + ", " + what + ")", INDEX, k -> k.reading(wrong, what));
            }
        }
        int[][] pairs = {{0, -1}, {1, -1}, {2, 1}, {2, 2}, {-1, -1}, {-1, -2}};
        for (int[] pair : pairs) {
            int i = pair[0];
            int j = pair[1];
            String told = "(" + i + ", " + j + ")";
            Known.refuses(check, "move" + told, INDEX, k -> k.move(i, j));
            Known.refuses(check, "time" + told, INDEX, k -> k.time(i, j));
            Known.refuses(check, "latitudeFrom" + told, INDEX, k -> k.latitudeFrom(i, j));
        }
        FoucaultKeeper text = new FoucaultKeeper();
        for (int i = 0; i < 100; i++) {
            text.append('F');
        }
        check.refused(text, "append(-1) to a full text", ARGUMENT, () -> text.append(-1));
        check.refused(text, "append(256) to a full text", ARGUMENT, () -> text.append(256));
        FoucaultKeeper pins = new FoucaultKeeper();
        for (int place = 0; place < 40; place++) {
            pins.addPin(place);
        }
        check.refused(pins, "addPin(-1) of 41", ARGUMENT, () -> pins.addPin(-1));
        check.refused(pins, "addPin(10800) of 41", ARGUMENT, () -> pins.addPin(10800));
        FoucaultKeeper fresh = new FoucaultKeeper();
        check.refused(fresh, "restore(2) when nothing is saved", INDEX, () -> fresh.restore(2));
    }

    private static void fullAndEmpty(Check check) {
        FoucaultKeeper pins = new FoucaultKeeper();
        for (int place = 0; place < 40; place++) {
            pins.addPin(100 + place);
        }
        check.refused(pins, "addPin of 41", STATE, () -> pins.addPin(7));
        check.due("undo behind it takes the 40th back", pins.undo(), 13);
        check.due("pins", pins.about(9), 39);
        FoucaultKeeper readings = new FoucaultKeeper();
        for (int i = 0; i < 20; i++) {
            readings.read();
        }
        check.refused(readings, "read of 21", STATE, readings::read);
        check.due("undo behind it takes the 20th back", readings.undo(), 13);
        check.due("readings", readings.about(12), 19);
        FoucaultKeeper text = new FoucaultKeeper();
        text.push(1);
        text.save(0);
        check.refused(text, "load of an empty text", STATE, text::load);
        Check.write(text, "F+50240055000p00");
        check.refused(text, "load of a text that ends too soon", STATE, text::load);
        check.due("the push behind it", text.undo(), 0);
        check.refused(text, "undo of none", STATE, text::undo);
        check.refused(text, "restore of nothing", STATE, () -> text.restore(1));
        check.due("the other slot behind it", text.restore(0), 0);
        check.due("its height", text.about(7), 5001);
        check.due("the text behind it", text.clearText(), 16);
    }
}
