/** The boundary cases of the promises 29 and 30: scripts and simulations. */
public final class ScriptEdgeTest {
    private static final Class<IllegalArgumentException> ARGUMENT = IllegalArgumentException.class;
    private static final int NONE = FoucaultKeeper.NONE;
    private static final int LEAST = Integer.MIN_VALUE;
    private static final int MOST = Integer.MAX_VALUE;

    public static void main(String[] args) {
        Sentences all = new Sentences();
        scripts(all);
        changes(all);
        nudges(all);
        questions(all);
        otherGroups(all);
        scriptsRefused(all);
        rounds(all);
        numbers(all);
        seeds(all);
        all.end();
    }

    /** Each of the groups is a script of its own, and must answer this. */
    private static void each(Check check, FoucaultKeeper keeper, int due, int... groups) {
        for (int group : groups) {
            check.due("the command " + group, keeper.runScript(1, group), due);
        }
    }

    /** At 0, 15 minutes in a turn; a pin stands at 60. */
    private static FoucaultKeeper fast() {
        return Check.loaded("F+90060009000p001");
    }

    private static void scripts(Sentences all) {
        String place = "Promise 29";
        all.holds(place, "A script has 1 to 3 commands", check -> {
            Known.answers(check, "one command", NONE, k -> k.runScript(1, 60001));
            Known.answers(check, "two commands", NONE, k -> k.runScript(2, 50000_60003L));
            Known.answers(check, "three commands", NONE, k -> k.runScript(3, 10001_50000_60003L));
        });
        all.holds(place, "the first command is the highest group of the number (with zeros before it, if it has fewer digits)",
                check -> {
                    FoucaultKeeper keeper = fast();
                    check.due("no digits of 5", keeper.runScript(1, 0), 0);
                    check.due("4 digits of 5", keeper.runScript(1, 5000), 0);
                    check.due("5 digits of 10", keeper.runScript(2, 50000), 0);
                    check.due("9 digits of 10", keeper.runScript(2, 5000_50000L), 0);
                    check.due("10 digits of 15", keeper.runScript(3, 50000_50000L), 0);
                    check.due("14 digits of 15", keeper.runScript(3, 5000_50000_50000L), 0);
                    check.due("turns, then raise", keeper.runScript(3, 10004_50000_60001L), NONE);
                    check.due("raise, then turns", keeper.runScript(3, 50000_10004_60001L), 2);
                });
        all.holds(place, "Returns the index, from 0, of the first command that fails; NONE if all succeed.", check -> {
            FoucaultKeeper keeper = fast();
            check.due("none of 1", keeper.runScript(1, 50000), NONE);
            check.due("none of 3", keeper.runScript(3, 50000_50000_50000L), NONE);
            check.due("the first of 1", keeper.runScript(1, 50001), 0);
            check.due("the first of 3", keeper.runScript(3, 50001_50000_50000L), 0);
            check.due("the second of 3", keeper.runScript(3, 50000_50001_50000L), 1);
            check.due("the third of 3", keeper.runScript(3, 50000_50000_50001L), 2);
            check.due("the second and the third of 3", keeper.runScript(3, 50000_50001_50001L), 1);
            check.due("all of 3", keeper.runScript(3, 50001_50001_50001L), 0);
        });
        all.holds(place, "Runs a script on a copy of the state.", check -> {
            Known.answers(check, "a script that succeeds", NONE, k -> k.runScript(3, 10500_20001_40600L));
            Known.answers(check, "a script that fails behind changes", 2, k -> k.runScript(3, 10500_50000_90099L));
            Known.answers(check, "a script that fails at once", 0, k -> k.runScript(3, 0));
        });
    }

    private static void changes(Sentences all) {
        String place = "Promise 29";
        all.holds(place, "1 0 x y z: makes xyz turns (001 to 500).", check -> {
            FoucaultKeeper keeper = Check.loaded("F+90060009000");
            each(check, keeper, NONE, 10001, 10002, 10499, 10500);
            each(check, keeper, 0, 10000, 10501, 10999, 11001, 11500, 19001);
            // 4 turns come to 60, the degree 1; 500 to 7500, the degree 125.
            check.due("3 turns", keeper.runScript(2, 10003_80001L), 1);
            check.due("4 turns", keeper.runScript(2, 10004_80001L), NONE);
            check.due("500 turns", keeper.runScript(3, 10500_80125_78500L), NONE);
        });
        all.holds(place, "2 w x y z: sets the setting w to xyz (the latitude to xyz, 0 to 90, the reach to xyz).", check -> {
            FoucaultKeeper keeper = fast();
            each(check, keeper, NONE, 20000, 20090, 21060, 21900, 22000, 22099, 23001, 23999, 24000, 24099);
            each(check, keeper, 0, 20091, 20999, 21059, 21901, 21000, 22100, 23000, 24100, 25000, 25060, 26001, 29060);
            check.due("the latitude 0", keeper.runScript(3, 20000_10500_80000L), NONE);
            check.due("900 turns in an hour", keeper.runScript(3, 21900_10060_80001L), NONE);
            check.due("the drag 99", keeper.runScript(3, 22099_10001_78910L), NONE);
            check.due("the drag 99, 1 more", keeper.runScript(3, 22099_10001_78911L), 2);
            check.due("the drive 99", keeper.runScript(3, 24099_10001_79098L), NONE);
            check.due("the drive 99, 1 more", keeper.runScript(3, 24099_10001_79099L), 2);
            FoucaultKeeper low = Check.loaded("F+90060000999p001");
            low.set(4, 1);
            check.due("the reach 999", low.runScript(3, 23999_10004_90001L), NONE);
            low.set(4, 0);
            check.due("the reach 999, too low at the pin", low.runScript(3, 23999_10004_90000L), NONE);
            FoucaultKeeper rest = new FoucaultKeeper();
            rest.swing(1);
            // From 2 by 20 turns with the rest 209400 to 60, without it to 59.
            check.due("the same turns in an hour take the rest", rest.runScript(3, 21240_10020_80000L), NONE);
            check.due("the same latitude leaves it", rest.runScript(3, 20050_10020_80001L), NONE);
        });
        all.holds(place, "3 0 x y z: pushes by xyz (001 to 999).", check -> {
            FoucaultKeeper keeper = Check.loaded("F+90060009000");
            each(check, keeper, NONE, 30001, 30002, 30998, 30999);
            each(check, keeper, 0, 30000, 31000, 31001, 31999, 39001);
            check.due("by 1", keeper.runScript(2, 30001_79001L), NONE);
            check.due("by 1, 1 more", keeper.runScript(2, 30001_79002L), 1);
            check.due("by 999", keeper.runScript(2, 30999_79999L), NONE);
            check.due("by 999 twice", keeper.runScript(3, 30999_30999_79999L), NONE);
            FoucaultKeeper top = Check.loaded("F+00060009999");
            check.due("not above 9999", top.runScript(3, 30999_10001_79998L), NONE);
            check.due("not above 9999, 1 more", top.runScript(3, 30999_10001_79999L), 2);
        });
        all.holds(place, "5 0 0 0 0: makes all pins stand.", check -> {
            FoucaultKeeper keeper = fast();
            each(check, keeper, NONE, 50000);
            each(check, keeper, 0, 50001, 50010, 50100, 51000, 59999);
            keeper.swing(4);
            check.due("before", keeper.runScript(1, 60000), NONE);
            check.due("then", keeper.runScript(2, 50000_60001L), NONE);
            check.due("it has fallen still", keeper.pin(0, 1), 0);
        });
    }

    private static void nudges(Sentences all) {
        String place = "Promise 29";
        all.holds(place, "4 s x y z: nudges by xyz (s is 0) or by -xyz (s is 1).", check -> {
            FoucaultKeeper keeper = fast();
            each(check, keeper, NONE, 40000, 40001, 40600, 41000, 41001, 41600);
            each(check, keeper, 0, 40601, 40999, 41601, 41999, 42000, 42001, 42600, 49000);
            check.due("by 600", keeper.runScript(3, 40600_80010_77800L), NONE);
            check.due("by 600, not higher", keeper.runScript(2, 40600_77801L), 1);
            check.due("by -600", keeper.runScript(3, 41600_80170_77800L), NONE);
            check.due("by -600, not higher", keeper.runScript(2, 41600_77801L), 1);
            check.due("by -1", keeper.runScript(3, 41001_80179_78998L), NONE);
            check.due("by 59", keeper.runScript(2, 40059_80000L), NONE);
            check.due("by 60", keeper.runScript(2, 40060_80001L), NONE);
            check.due("by 60, over the pin", keeper.runScript(3, 40600_60001_90000L), NONE);
            FoucaultKeeper low = Check.loaded("F+90060000001");
            check.due("the height not below 0", low.runScript(3, 40600_70000_70001L), 2);
            FoucaultKeeper rest = new FoucaultKeeper();
            rest.swing(1);
            // From 2 by 20 turns with the rest 209400 to 60, without it to 59.
            check.due("by 0 it takes the rest", rest.runScript(3, 40000_10020_80000L), NONE);
            check.due("by -0 it takes the rest", rest.runScript(3, 41000_10020_80000L), NONE);
            check.due("without it", rest.runScript(2, 10020_80001L), NONE);
        });
    }

    private static void questions(Sentences all) {
        String place = "Promise 29";
        all.holds(place, "6 0 0 x y: succeeds if xy pins stand.", check -> {
            FoucaultKeeper keeper = new FoucaultKeeper();
            each(check, keeper, NONE, 60000);
            each(check, keeper, 0, 60001, 60099, 60100, 61000, 69000);
            for (int at = 1; at <= 40; at++) {
                keeper.addPin(at);
            }
            each(check, keeper, NONE, 60040);
            each(check, keeper, 0, 60000, 60039, 60041, 60140, 60400, 61040);
        });
        all.holds(place, "7 w x y z: succeeds if the height is at least w * 1000 + xyz.", check -> {
            each(check, Check.loaded("F+90060001234"), NONE, 70000, 70999, 71000, 71233, 71234);
            each(check, Check.loaded("F+90060001234"), 0, 71235, 72000, 79999);
            each(check, Check.loaded("F+90060000000"), NONE, 70000);
            each(check, Check.loaded("F+90060000000"), 0, 70001, 71000);
            each(check, Check.loaded("F+90060009999"), NONE, 70000, 79998, 79999);
            each(check, Check.loaded("F+90060009998"), 0, 79999);
        });
        all.holds(place, "8 0 x y z: succeeds if the direction is from 60 * xyz to 60 * xyz + 59.", check -> {
            int[][] due = {{0, 0}, {59, 0}, {60, 1}, {119, 1}, {120, 2}, {600, 10}, {-1, 179}, {-60, 179}, {-61, 178}};
            for (int[] pair : due) {
                FoucaultKeeper keeper = new FoucaultKeeper();
                keeper.nudge(pair[0]);
                each(check, keeper, NONE, 80000 + pair[1]);
                each(check, keeper, 0, 80000 + (pair[1] + 1) % 180, 80000 + (pair[1] + 179) % 180, 81000 + pair[1],
                        80180 + pair[1], 80180, 80999);
            }
        });
        all.holds(place, "9 0 0 x y: succeeds if the ledger has xy hits.", check -> {
            FoucaultKeeper keeper = Check.loaded("F+90900009999");
            for (int at = 1; at <= 21; at++) {
                keeper.addPin(at);
            }
            each(check, keeper, NONE, 90000);
            each(check, keeper, 0, 90001, 90100, 91000, 99000);
            keeper.swing(20);
            each(check, keeper, NONE, 90020);
            each(check, keeper, 0, 90000, 90019, 90021, 90120, 90200, 91020);
            keeper.swing(1);
            each(check, keeper, NONE, 90020);
            each(check, keeper, 0, 90021);
        });
    }

    private static void otherGroups(Sentences all) {
        String place = "Promise 29";
        all.holds(place, "The commands 1 to 5 fail if the method with this effect would throw an exception", check -> {
            FoucaultKeeper keeper = fast();
            each(check, keeper, 0, 10000, 10501, 20091, 21059, 21901, 22100, 23000, 24100, 30000, 40601, 41601);
        });
        all.holds(place, "and so does any other group (also one with another digit where a 0 is written).", check -> {
            FoucaultKeeper keeper = fast();
            for (int group = 0; group < 10000; group++) {
                check.due("the group " + group, new FoucaultKeeper().runScript(1, group), 0);
            }
            each(check, keeper, 0, 11001, 12500, 19001, 25060, 29001, 31001, 39999, 42000, 49600, 50001, 50010, 50100, 51000,
                    60101, 61001, 60901, 69001, 81000, 89000, 90100, 90900, 91000, 99000);
        });
    }

    private static void scriptsRefused(Sentences all) {
        String place = "Promise 29";
        all.holds(place, "`n`: number of commands, 1 to 3", check -> {
            for (int n : new int[] {0, -1, 4, MOST, LEAST}) {
                for (long script : new long[] {0, 50000}) {
                    Known.refuses(check, "runScript(" + n + ", " + script + ")", ARGUMENT, k -> k.runScript(n, script));
                }
            }
        });
        all.holds(place, "`script`: the commands, a number of at most 5 * n digits (0 or more)", check -> {
            FoucaultKeeper keeper = fast();
            long[] most = {99999L, 99999_99999L, 99999_99999_99999L};
            for (int n = 1; n <= 3; n++) {
                int count = n;
                long script = most[n - 1];
                check.due("0 with " + n, keeper.runScript(n, 0), 0);
                check.due(script + " with " + n, keeper.runScript(n, script), 0);
                Known.refuses(check, (script + 1) + " with " + n, ARGUMENT, k -> k.runScript(count, script + 1));
            }
        });
        all.holds(place, "or if script is negative or has more than 5 * n digits", check -> {
            for (int n = 1; n <= 3; n++) {
                int count = n;
                for (long script : new long[] {-1, -50000, -50000_50000L, Long.MIN_VALUE, Long.MAX_VALUE,
                    1_00000_00000_00000_000L}) {
                    Known.refuses(check, script + " with " + n, ARGUMENT, k -> k.runScript(count, script));
                }
            }
            Known.refuses(check, "6 digits with 1", ARGUMENT, k -> k.runScript(1, 150000));
            Known.refuses(check, "10 digits with 1", ARGUMENT, k -> k.runScript(1, 50000_50000L));
            Known.refuses(check, "11 digits with 2", ARGUMENT, k -> k.runScript(2, 1_50000_50000L));
            Known.refuses(check, "16 digits with 3", ARGUMENT, k -> k.runScript(3, 1_50000_50000_50000L));
        });
    }

    /** The seed whose first round has this r, by the inverse of the factor. */
    private static long seedFor(long r) {
        long factor = 6364136223846793005L;
        long inverse = factor;
        for (int i = 0; i < 6; i++) {
            inverse *= 2 - factor * inverse;
        }
        return ((r << 33) - 1442695040888963407L) * inverse;
    }

    private static void rounds(Sentences all) {
        String place = "Promise 30";
        all.holds(place, "`m`: number of rounds, 1 to 60", check -> {
            for (long seed : new long[] {0, 4, -9}) {
                for (int m : new int[] {1, 2, 59, 60}) {
                    check.due("simulate(" + seed + ", " + m + ")", used().simulate(seed, m), played(seed, m));
                }
            }
            Known.answers(check, "one round, one turn", 10150, k -> k.simulate(seedFor(2), 1));
        });
        all.holds(place, "Throws `IllegalArgumentException` if m is out of range", check -> {
            for (int m : new int[] {0, -1, 61, MOST, LEAST}) {
                for (long seed : new long[] {0, Long.MIN_VALUE}) {
                    Known.refuses(check, "simulate(" + seed + ", " + m + ")", ARGUMENT, k -> k.simulate(seed, m));
                }
            }
        });
        all.holds(place, "Simulates m rounds on a copy of the state.", check -> {
            Known.answers(check, "a nudge and a turn", 210, k -> k.simulate(seedFor(960), 1));
            Known.answers(check, "a push and turns", 10195, k -> k.simulate(seedFor(3993), 1));
        });
        all.holds(place, "Returns 10000 times the number of pins that fell in these rounds, plus the direction at the end.", check -> {
            FoucaultKeeper none = Check.loaded("F+90060009000");
            check.due("no pin, a turn", none.simulate(seedFor(2), 1), 15);
            FoucaultKeeper forty = Check.loaded("F+90060009999");
            for (int at = 1; at <= 40; at++) {
                forty.addPin(at);
            }
            // 2 + 1024 * 2: 3 turns.
            check.due("all 40 pins", forty.simulate(seedFor(2050), 1), 400045);
            forty.swing(1);
            check.due("the 25 that had not fallen", forty.simulate(seedFor(2050), 1), 250060);
            FoucaultKeeper south = Check.loaded("F-90900009000");
            check.due("the last direction", south.simulate(seedFor(2), 1), 10799);
            FoucaultKeeper end = Check.loaded("F+90900009000");
            end.nudge(-1);
            check.due("0 behind it", end.simulate(seedFor(2), 1), 0);
        });
    }

    private static void numbers(Sentences all) {
        String place = "Promise 30";
        all.holds(place, "If r % 8 is 0, a nudge by r / 8 % 121 - 60 is made", check -> {
            // r / 1024 is 0 here: a turn of 15 minutes follows.
            long[][] due = {{0, 10755}, {8, 10756}, {952, 74}, {960, 75}, {968, 10755}, {976, 10756}};
            for (long[] pair : due) {
                FoucaultKeeper keeper = Check.loaded("F+90060009000");
                check.due("r " + pair[0], keeper.simulate(seedFor(pair[0]), 1), pair[1]);
            }
            // 120 from the height by 60 minutes: 4119 is just too low for the pin, 4120 is not.
            FoucaultKeeper low = Check.loaded("F+90060004119");
            low.addPin(61);
            check.due("the height it takes", low.simulate(seedFor(960), 1), 75);
            low.push(1);
            check.due("the height it leaves", low.simulate(seedFor(960), 1), 10075);
        });
        all.holds(place, "(also by 0)", check -> {
            FoucaultKeeper keeper = new FoucaultKeeper();
            keeper.swing(1);
            // From 2 and the rest 209400 a turn comes to 5; a nudge by 0 takes the rest, and it comes to 4.
            check.due("r 480", keeper.simulate(seedFor(480), 1), 4);
            check.due("r 482, no nudge", keeper.simulate(seedFor(482), 1), 5);
        });
        all.holds(place, "if it is 1, a push by 1 + r / 8 % 500", check -> {
            // {r, the push}; the turns that follow are 15 minutes each, the pin is in the first one.
            long[][] due = {{1, 1}, {9, 2}, {3993, 500}, {4001, 1}};
            for (long[] pair : due) {
                long turns = 1 + pair[0] / 1024;
                FoucaultKeeper just = Check.loaded("F+90060000000");
                just.push((int) (4000 - pair[1]));
                just.addPin(1);
                check.due("r " + pair[0], just.simulate(seedFor(pair[0]), 1), 10000 + 15 * turns);
                just.undo();
                just.undo();
                just.push((int) (3999 - pair[1]));
                just.addPin(1);
                check.due("r " + pair[0] + ", 1 lower", just.simulate(seedFor(pair[0]), 1), 15 * turns);
            }
            FoucaultKeeper top = Check.loaded("F+90060009999");
            top.set(3, 9999);
            top.addPin(16);
            check.due("not above 9999", top.simulate(seedFor(1024 + 9), 1), 30);
        });
        all.holds(place, "If r % 8 is 0 [..] if it is 1 [and nothing for any other]", check -> {
            for (int r = 2; r < 8; r++) {
                FoucaultKeeper keeper = new FoucaultKeeper();
                keeper.swing(1);
                // The height is 4997: a push by 1 would be enough for the pin.
                keeper.set(3, 4998);
                keeper.addPin(3);
                check.due("r " + r, keeper.simulate(seedFor(r), 1), 5);
            }
        });
        all.holds(place, "Then 1 + r / 1024 % 20 turns are made.", check -> {
            long[][] due = {{2, 1}, {1023, 1}, {1026, 2}, {19458, 20}, {20479, 20}, {20482, 1}, {21506, 2}};
            for (long[] pair : due) {
                FoucaultKeeper keeper = Check.loaded("F+90900009000");
                check.due("r " + pair[0], keeper.simulate(seedFor(pair[0]), 1), pair[1]);
            }
        });
    }

    private static void seeds(Sentences all) {
        String place = "Promise 30";
        all.holds(place, "`seed`: any long", check -> {
            long[] seeds = {0, 1, -1, Long.MAX_VALUE, Long.MIN_VALUE, Long.MAX_VALUE - 1, Long.MIN_VALUE + 1, Integer.MAX_VALUE,
                Integer.MIN_VALUE, 1L << 33, (1L << 33) - 1};
            for (long seed : seeds) {
                check.due("the seed " + seed, used().simulate(seed, 25), played(seed, 25));
            }
        });
        all.holds(place, "Each round first replaces x by x * 6364136223846793005L + 1442695040888963407L (with long overflow)",
                check -> {
                    FoucaultKeeper keeper = Check.loaded("F+90900009000");
                    // 1442695040888963407 >>> 33 is 167951807: 7 left by 8, and 164015 * 1024 and some.
                    check.due("the seed 0", keeper.simulate(0, 1), 1 + 164015 % 20);
                    // The sum of both numbers is 7806831264735756412; >>> 33 it is 908834774: 6 left by 8.
                    check.due("the seed 1", keeper.simulate(1, 1), 1 + 887533 % 20);
                    // With 3 and with 2 the range of long is passed: what is left is, >>> 33, 243117059 and 1649717740.
                    check.due("the seed 3", keeper.simulate(3, 1), 1 + 237419 % 20);
                    check.due("the seed 2", keeper.simulate(2, 1), 1 + 1611052 % 20);
                });
        all.holds(place, "and r = (int) (x >>> 33) is computed", check -> {
            // The greatest r: 7 left by 8, 2097151 * 1024 + 1023; and the least with the highest bit of x.
            check.due("r 2147483647", Check.loaded("F+90900009000").simulate(seedFor(2147483647L), 1), 1 + 2097151 % 20);
            check.due("r 1073741826", Check.loaded("F+90900009000").simulate(seedFor(1073741826L), 1), 1 + 1048576 % 20);
            check.due("r 1073741823", Check.loaded("F+90900009000").simulate(seedFor(1073741823L), 1), 1 + 1048575 % 20);
        });
    }

    private static FoucaultKeeper used() {
        FoucaultKeeper keeper = Check.loaded("F+60060099000p000p001p002p003p005p179");
        keeper.set(3, 2000);
        return keeper;
    }

    /** The same rounds by the public actions. */
    private static long played(long seed, int m) {
        FoucaultKeeper keeper = used();
        long x = seed;
        long fallen = 0;
        for (int round = 0; round < m; round++) {
            x = x * 6364136223846793005L + 1442695040888963407L;
            long r = (x >> 33) & 0x7fffffffL;
            if (r % 8 == 0) {
                keeper.nudge((int) (r / 8 % 121 - 60));
            }
            if (r % 8 == 1) {
                keeper.push((int) (1 + r / 8 % 500));
            }
            fallen += keeper.swing((int) (1 + r / 1024 % 20));
        }
        return 10000 * fallen + keeper.about(5);
    }
}
