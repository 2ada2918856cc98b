/**
 * The boundary cases of the promises 23 to 28: forecasts.
 *
 * <p>At the latitude 90 and 900 turns in an hour a turn goes on by a minute, at 60 by 15; without
 * drag it takes 1 away from the height.
 */
public final class ForecastEdgeTest {
    private static final Class<IllegalArgumentException> ARGUMENT = IllegalArgumentException.class;
    private static final Class<IndexOutOfBoundsException> INDEX = IndexOutOfBoundsException.class;
    private static final int NONE = FoucaultKeeper.NONE;
    private static final int LEAST = Integer.MIN_VALUE;
    private static final int MOST = Integer.MAX_VALUE;

    public static void main(String[] args) {
        Sentences all = new Sentences();
        ahead(all);
        fallsAfter(all);
        lowAfter(all);
        pushFor(all);
        pushForRefused(all);
        freeStart(all);
        freeStartPresent(all);
        freeStartRefused(all);
        next(all);
        all.end();
    }

    private static void ahead(Sentences all) {
        String place = "Promise 23";
        all.holds(place, "`m`: number of turns, 0 to 500", check -> {
            int[][] due = {{0, 0, 9999, 0, 2}, {1, 1, 9998, 0, 2}, {499, 499, 9500, 0, 2}, {500, 500, 9449, 1, 1}};
            for (int[] row : due) {
                FoucaultKeeper keeper = Check.loaded("F+90900009999p000");
                keeper.addPin(500);
                for (int what = 0; what <= 3; what++) {
                    check.due("ahead(" + row[0] + ", " + what + ")", keeper.ahead(row[0], what), row[what + 1]);
                }
            }
            int[] now = {135, 8891, 0, 1};
            for (int what = 0; what <= 3; what++) {
                int w = what;
                Known.answers(check, "ahead(0, " + what + ")", now[what], k -> k.ahead(0, w));
            }
        });
        all.holds(place, "2: the number of pins that fall in these turns; 3: the number of pins that stand then", check -> {
            // 140 is hit by the next turn; 60 and 120 have fallen.
            int[] due = {150, 8840, 1, 0};
            for (int what = 0; what <= 3; what++) {
                int w = what;
                Known.answers(check, "ahead(1, " + what + ")", due[what], k -> k.ahead(1, w));
            }
            FoucaultKeeper forty = Check.loaded("F+90060009999");
            for (int at = 1; at <= 40; at++) {
                forty.addPin(at);
            }
            check.due("all 40 fall", forty.ahead(3, 2), 40);
            check.due("none stands then", forty.ahead(3, 3), 0);
            check.due("all 40 stand", forty.about(10), 40);
        });
        all.holds(place, "0: the direction [around at 10799 and 0]", check -> {
            check.due("back from 0", Check.loaded("F-90900009000").ahead(1, 0), 10799);
            FoucaultKeeper end = Check.loaded("F+90900009000");
            end.nudge(-1);
            check.due("on from 10799", end.ahead(1, 0), 0);
        });
        all.holds(place, "1: the height [0, and as high as can be]", check -> {
            FoucaultKeeper low = Check.loaded("F+00060000003");
            check.due("1 left", low.ahead(2, 1), 1);
            check.due("0", low.ahead(3, 1), 0);
            check.due("0 still", low.ahead(500, 1), 0);
            low.set(4, 99);
            check.due("driven to the top", low.ahead(500, 1), 9999);
        });
        all.holds(place, "Throws `IllegalArgumentException` if m or what is out of range", check -> {
            for (int wrong : new int[] {-1, 501, MOST, LEAST}) {
                for (int what = 0; what <= 3; what++) {
                    int w = what;
                    Known.refuses(check, "ahead(" + wrong + ", " + what + ")", ARGUMENT, k -> k.ahead(wrong, w));
                }
            }
            for (int what : new int[] {-1, 4, MOST, LEAST}) {
                Known.refuses(check, "ahead(0, " + what + ")", ARGUMENT, k -> k.ahead(0, what));
                Known.refuses(check, "ahead(500, " + what + ")", ARGUMENT, k -> k.ahead(500, what));
            }
        });
    }

    private static void fallsAfter(Sentences all) {
        String place = "Promise 24";
        all.holds(place, "(0 turns, if it has fallen)", check -> {
            Known.answers(check, "fallsAfter(0)", 0, k -> k.fallsAfter(0));
            Known.answers(check, "fallsAfter(1)", 0, k -> k.fallsAfter(1));
            FoucaultKeeper still = Check.loaded("F+90900000060p001");
            still.set(3, 1);
            still.swing(60);
            check.due("at the height 0", still.about(7), 0);
            check.due("it has fallen", still.fallsAfter(0), 0);
            still.raise();
            check.due("it stands again, for ever", still.fallsAfter(0), NONE);
        });
        all.holds(place, "Returns the smallest number of turns, 0 to 2000, after which (without other changes) it has fallen",
                check -> {
                    int[][] due = {{1, 1}, {2, 2}, {1999, 1999}, {2000, 2000}, {2001, NONE}, {10799, NONE}, {0, NONE}};
                    for (int[] pair : due) {
                        FoucaultKeeper keeper = Check.loaded("F+90900009999");
                        keeper.addPin(pair[0]);
                        check.due("a pin " + pair[0] + " turns away", keeper.fallsAfter(0), pair[1]);
                    }
                    Known.answers(check, "fallsAfter(2)", 1, k -> k.fallsAfter(2));
                });
        all.holds(place, "NONE if there is none. [the height is too low when it comes there]", check -> {
            FoucaultKeeper keeper = Check.loaded("F+90900004009");
            keeper.addPin(10);
            check.due("just the reach", keeper.fallsAfter(0), 10);
            keeper.addPin(11);
            check.due("below the reach by the hit", keeper.fallsAfter(1), NONE);
            keeper.nudge(0);
            keeper.swing(1);
            keeper.removePin(0);
            check.due("one below the reach", keeper.fallsAfter(0), NONE);
            FoucaultKeeper last = Check.loaded("F+90900000100");
            last.set(3, 1);
            last.addPin(100);
            check.due("the last turn that there is", last.fallsAfter(0), 100);
            last.removePin(0);
            last.addPin(101);
            check.due("one turn more", last.fallsAfter(0), NONE);
        });
        all.holds(place, "Throws `IndexOutOfBoundsException` if there is no such pin", check -> {
            for (int pin : new int[] {-1, Known.PINS, 39, 40, MOST, LEAST}) {
                Known.refuses(check, "fallsAfter(" + pin + ")", INDEX, k -> k.fallsAfter(pin));
            }
            FoucaultKeeper none = new FoucaultKeeper();
            check.refused(none, "fallsAfter(0) of none", INDEX, () -> none.fallsAfter(0));
        });
    }

    private static void lowAfter(Sentences all) {
        String place = "Promise 25";
        all.holds(place, "Returns the smallest number of turns, 0 to 3000, after which [..] the height is at most this one", check -> {
            // {the height now, the height asked for, turns}
            int[][] due = {{3000, 3000, 0}, {3000, 3001, 0}, {3000, 9999, 0}, {3000, 2999, 1}, {3000, 0, 3000},
                {3001, 0, NONE}, {3001, 1, 3000}, {9999, 6999, 3000}, {9999, 6998, NONE}, {9999, 9999, 0}, {0, 0, 0},
                {1, 0, 1}};
            for (int[] row : due) {
                FoucaultKeeper keeper = Check.loaded(String.format("F+0006000%04d", row[0]));
                check.due("from " + row[0] + " to " + row[1], keeper.lowAfter(row[1]), row[2]);
            }
            Known.answers(check, "lowAfter(8891)", 0, k -> k.lowAfter(8891));
            Known.answers(check, "lowAfter(8890)", 1, k -> k.lowAfter(8890));
        });
        all.holds(place, "NONE if there is none. [the drive keeps it up]", check -> {
            FoucaultKeeper keeper = Check.loaded("F+00060003000");
            keeper.set(4, 1);
            check.due("below it", keeper.lowAfter(2999), NONE);
            check.due("at it", keeper.lowAfter(3000), 0);
            check.due("0", keeper.lowAfter(0), NONE);
        });
        all.holds(place, "after which [and not within which] (without other changes) the height is at most this one", check -> {
            FoucaultKeeper keeper = Check.loaded("F+90060005000");
            keeper.set(4, 99);
            keeper.addPin(5);
            // 5000 - 50 - 1 + 99: the height is 4950 within the turn only.
            check.due("4999", keeper.lowAfter(4999), NONE);
        });
        all.holds(place, "`height`: 0 to 9999", check -> {
            for (int height : new int[] {-1, 10000, MOST, LEAST}) {
                Known.refuses(check, "lowAfter(" + height + ")", ARGUMENT, k -> k.lowAfter(height));
            }
            Known.answers(check, "lowAfter(9999)", 0, k -> k.lowAfter(9999));
            Known.answers(check, "lowAfter(0)", NONE, k -> k.lowAfter(0));
        });
    }

    /** At the latitude 0, without drag: what a push is enough for is only a matter of 1 in each turn. */
    private static int pushFor(int height, int reach, int drive, int m) {
        FoucaultKeeper keeper = Check.loaded(String.format("F+0006000%04d", height));
        keeper.set(3, reach);
        keeper.set(4, drive);
        return keeper.pushFor(m);
    }

    private static void pushFor(Sentences all) {
        String place = "Promise 26";
        all.holds(place, "Returns the smallest multiple of 100, 0 to 9900", check -> {
            check.due("none is needed", pushFor(4001, 4000, 0, 1), 0);
            check.due("1 is needed", pushFor(4000, 4000, 0, 1), 100);
            check.due("100 are needed", pushFor(3901, 4000, 0, 1), 100);
            check.due("101 are needed", pushFor(3900, 4000, 0, 1), 200);
            check.due("9900 are needed", pushFor(0, 9899, 0, 1), 9900);
            check.due("9800 are needed", pushFor(0, 9799, 0, 1), 9800);
        });
        all.holds(place, "NONE if there is none.", check -> {
            check.due("9901 are needed", pushFor(0, 9900, 0, 1), NONE);
            check.due("10000 are needed", pushFor(0, 9999, 0, 1), NONE);
            check.due("the height ends at 9999", pushFor(9950, 9998, 0, 2), NONE);
            check.due("a turn less", pushFor(9950, 9998, 0, 1), 100);
        });
        all.holds(place, "(none for 0)", check -> {
            check.due("at rest a push of 0 is none", pushFor(0, 1, 5, 1), 100);
            check.due("at the height 1", pushFor(1, 1, 5, 200), 0);
        });
        all.holds(place, "the height is at least the reach after each of the next m turns", check -> {
            check.due("just the reach", pushFor(4200, 4000, 0, 200), 0);
            check.due("one below it behind the last turn", pushFor(4199, 4000, 0, 200), 100);
            check.due("one turn less", pushFor(4199, 4000, 0, 199), 0);
            // 4030 - 50 - 1 + 20 is 3999; the drive makes good for it only behind the next turn.
            FoucaultKeeper first = driven("F+90060004030", 5, 20);
            check.due("too low behind the first turn", first.pushFor(1), 100);
            check.due("too low behind the first turn alone", first.pushFor(3), 100);
            // 4010 - 1 + 20 is 4029; 4029 - 50 - 1 + 20 is 3998.
            FoucaultKeeper second = driven("F+90060004010", 20, 20);
            check.due("not too low behind the first turn", second.pushFor(1), 0);
            check.due("too low behind the second turn alone", second.pushFor(3), 100);
            check.due("too low within the turn, but not behind it", driven("F+90060004049", 5, 50).pushFor(3), 0);
        });
        all.holds(place, "(it is not asked ahead of the first one)", check -> {
            check.due("below the reach, driven to it", pushFor(3951, 4000, 50, 1), 0);
            check.due("below the reach, driven to just below", pushFor(3950, 4000, 50, 1), 100);
            check.due("and then for 200 turns", pushFor(3951, 4000, 50, 200), 0);
        });
    }

    private static FoucaultKeeper driven(String text, int place, int drive) {
        FoucaultKeeper keeper = Check.loaded(text);
        keeper.addPin(place);
        keeper.set(4, drive);
        return keeper;
    }

    private static void pushForRefused(Sentences all) {
        String place = "Promise 26";
        all.holds(place, "`m`: number of turns, 1 to 200", check -> {
            Known.answers(check, "pushFor(1)", 0, k -> k.pushFor(1));
            Known.answers(check, "pushFor(200)", 0, k -> k.pushFor(200));
        });
        all.holds(place, "Throws `IllegalArgumentException` if m is out of range", check -> {
            for (int m : new int[] {0, -1, 201, MOST, LEAST}) {
                Known.refuses(check, "pushFor(" + m + ")", ARGUMENT, k -> k.pushFor(m));
            }
        });
    }

    private static void freeStart(Sentences all) {
        String place = "Promise 27";
        all.holds(place, "Returns the smallest direction that is a multiple of 60", check -> {
            FoucaultKeeper keeper = Check.loaded("F+90900009999");
            check.due("no pins", keeper.freeStart(200), 0);
            keeper.addPin(1);
            check.due("one in the way of 0", keeper.freeStart(59), 60);
            check.due("one in the way of 0, 200 turns", keeper.freeStart(200), 60);
            keeper.addPin(260);
            check.due("200 turns from 60 come to 260", keeper.freeStart(200), 300);
            check.due("199 turns from 60 do not", keeper.freeStart(199), 60);
        });
        all.holds(place, "the smallest direction that is a multiple of 60 [the last one, 10740]", check -> {
            // 200 turns of 15 minutes: 3000. Each start has a pin in them but 10740, from which they end at 2940.
            FoucaultKeeper keeper = Check.loaded("F+90060009999p050p100p150p179");
            check.due("only 10740 is left", keeper.freeStart(200), 10740);
            keeper.addPin(2940);
            check.due("not even that", keeper.freeStart(200), NONE);
            check.due("a turn less from 3000 ends below 6000", keeper.freeStart(199), 3000);
        });
        all.holds(place, "NONE if there is none.", check -> {
            FoucaultKeeper ring = Check.loaded("F+90060009999");
            for (int k = 0; k < 36; k++) {
                ring.addPin(300 * k);
            }
            check.due("a pin within each 300", ring.freeStart(20), NONE);
            check.due("285 are free", ring.freeStart(19), 0);
        });
        all.holds(place, "no pin that stands would fall in the next m turns", check -> {
            FoucaultKeeper keeper = Check.loaded("F+90060009999p000p001");
            check.due("60 in the way, by 4 turns", keeper.freeStart(4), 60);
            check.due("60 not in the way, by 3 turns", keeper.freeStart(3), 0);
            keeper.swing(4);
            check.due("60 has fallen", keeper.freeStart(200), 0);
            keeper.raise();
            check.due("60 stands again", keeper.freeStart(200), 60);
        });
        all.holds(place, "(the start itself hits none)", check -> {
            check.due("a pin at 0", Check.loaded("F+90060009999p000").freeStart(200), 0);
            check.due("a pin at 0, backwards", Check.loaded("F-90060009999p000").freeStart(200), 0);
            check.due("a pin at 0, standing still", Check.loaded("F+00060009999p000").freeStart(200), 0);
        });
        all.holds(place, "from which [around at 0 and 10799] (with the present rest and height) no pin that stands would fall", check -> {
            FoucaultKeeper back = Check.loaded("F-90900009999");
            back.addPin(10799);
            check.due("10799 is in the way of 0", back.freeStart(1), 60);
            check.due("60 turns from 60 end at 0", back.freeStart(60), 60);
            check.due("61 turns from 60 end at 10799", back.freeStart(61), 120);
        });
    }

    private static void freeStartPresent(Sentences all) {
        String place = "Promise 27";
        all.holds(place, "(with the present rest and height)", check -> {
            FoucaultKeeper rest = new FoucaultKeeper();
            rest.addPin(3);
            check.due("from the rest 0 the turn ends at 2", rest.freeStart(1), 0);
            // Two turns: 2 * 689400 is 5 * 240000 + 178800, the next one goes on by 3.
            rest.removePin(0);
            rest.swing(2);
            rest.addPin(3);
            check.due("from the present rest it ends at 3", rest.freeStart(1), 60);
            FoucaultKeeper height = Check.loaded("F+90900004010p001");
            height.addPin(11);
            check.due("at 11 the height is the reach", height.freeStart(11), 60);
            height.swing(1);
            check.due("at 11 the height is below the reach", height.freeStart(11), 0);
            height.push(5999);
            check.due("it is above it again", height.freeStart(11), 60);
            check.due("the direction is another one", height.about(5), 1);
        });
        all.holds(place, "(with the present rest and height) [a height of 0, and one below the reach]", check -> {
            FoucaultKeeper still = Check.loaded("F+90060000000p001");
            still.set(3, 1);
            check.due("a height of 0", still.freeStart(200), 0);
            still.push(1);
            check.due("a height of 1, for a turn", still.freeStart(200), 0);
            still.addPin(15);
            check.due("a height of 1, hit in this turn", still.freeStart(200), 60);
            FoucaultKeeper low = Check.loaded("F+90060003999p001");
            check.due("below the reach", low.freeStart(200), 0);
            low.set(4, 2);
            check.due("driven to the reach", low.freeStart(200), 60);
        });
    }

    private static void freeStartRefused(Sentences all) {
        String place = "Promise 27";
        all.holds(place, "`m`: number of turns, 1 to 200", check -> {
            Known.answers(check, "freeStart(1)", 0, k -> k.freeStart(1));
            Known.answers(check, "freeStart(200)", 180, k -> k.freeStart(200));
        });
        all.holds(place, "Throws `IllegalArgumentException` if m is out of range", check -> {
            for (int m : new int[] {0, -1, 201, MOST, LEAST}) {
                Known.refuses(check, "freeStart(" + m + ")", ARGUMENT, k -> k.freeStart(m));
            }
        });
    }

    private static void next(Sentences all) {
        String place = "Promise 28";
        all.holds(place, "Returns the first pin that falls within the next 2000 turns without other changes", check -> {
            FoucaultKeeper keeper = Check.loaded("F+90900009999p000");
            int[][] due = {{2001, NONE}, {2000, 2}, {1999, 3}, {1, 4}};
            for (int[] pair : due) {
                keeper.addPin(pair[0]);
                check.due("a pin at " + pair[0], keeper.next(), pair[1]);
            }
            keeper.swing(1);
            keeper.nudge(-1);
            check.due("one that has fallen is none", keeper.next(), 3);
            Known.answers(check, "next()", 2, FoucaultKeeper::next);
        });
        all.holds(place, "the first pin [of several in one turn]", check -> {
            for (int sign : new int[] {1, -1}) {
                FoucaultKeeper keeper = Check.loaded("F+90060009999");
                keeper.set(0, 90 * sign);
                for (int way : new int[] {15, 9, 1, 14}) {
                    keeper.addPin((10800 + sign * way) % 10800);
                }
                check.due("the nearest", keeper.next(), 2);
                keeper.removePin(2);
                check.due("the nearest left", keeper.next(), 1);
            }
        });
        all.holds(place, "NONE if there is none.", check -> {
            check.due("no pins", new FoucaultKeeper().next(), NONE);
            check.due("a pin right here", Check.loaded("F+90900009999p000").next(), NONE);
            check.due("standing still", Check.loaded("F+00060009999p001").next(), NONE);
            check.due("a height of 0", Check.loaded("F+90060000000p001").next(), NONE);
            check.due("below the reach", Check.loaded("F+90060003999p001").next(), NONE);
            FoucaultKeeper low = Check.loaded("F+90900004009");
            low.addPin(10);
            check.due("just the reach", low.next(), 0);
            low.removePin(0);
            low.addPin(11);
            check.due("below the reach when it comes there", low.next(), NONE);
        });
    }
}
