/** Promises 29 and 30: scripts and simulations. */
public final class ScriptTest {
    public static void main(String[] args) {
        Check check = new Check();
        promise29(check);
        promise29Groups(check);
        promise29Digits(check);
        promise29Refused(check);
        promise30(check);
        check.end();
    }

    private static void promise29(Check check) {
        FoucaultKeeper keeper = Check.loaded("F+90060009000p001p179");
        check.due("4 turns, 1 stands, 1 hit", keeper.runScript(3, 10004_60001_90001L), -9);
        check.due("3 turns, 1 stands", keeper.runScript(2, 10003_60001L), 1);
        check.due("4 turns, raise, 2 stand", keeper.runScript(3, 10004_50000_60002L), -9);
        check.due("4 turns, raise, 1 stands", keeper.runScript(3, 10004_50000_60001L), 2);
        check.due("the first that fails", keeper.runScript(3, 10000_60009_60001L), 0);
        check.due("latitude 0, 500 turns, direction 0", keeper.runScript(3, 20000_10500_80000L), -9);
        check.due("60 turns to 900, 60 turns, direction 60", keeper.runScript(3, 21900_10060_80001L), -9);
        check.due("a push of 999", keeper.runScript(2, 30999_79999L), -9);
        check.due("a push of 998", keeper.runScript(2, 30998_79999L), 1);
        check.due("a nudge of 600", keeper.runScript(3, 40600_80010_77800L), -9);
        check.due("a nudge of -600", keeper.runScript(3, 41600_80170_77800L), -9);
        check.due("a nudge of -1", keeper.runScript(2, 41001_80179L), -9);
        check.due("drag 99", keeper.runScript(3, 22099_10001_78910L), -9);
        check.due("drag 99, too high", keeper.runScript(3, 22099_10001_78911L), 2);
        check.due("reach 999", keeper.runScript(3, 23999_10004_90001L), -9);
        check.due("drive 99", keeper.runScript(3, 24099_10010_79930L), -9);
        check.changesNothing(keeper, "a script", () -> keeper.runScript(3, 10004_41600_23999L));
        check.refused(keeper, "undo behind scripts", IllegalStateException.class, keeper::undo);
    }

    private static void promise29Groups(Check check) {
        FoucaultKeeper keeper = Check.loaded("F+90060001234p001p179");
        long[] right = {10001, 10500, 20000, 20090, 21060, 21900, 22000, 22099, 23001, 23999, 24000, 24099, 30001,
            30999, 40000, 40600, 41000, 41600, 50000, 60002, 71234, 70000, 80000, 90000};
        for (long group : right) {
            check.due("the command " + group, keeper.runScript(1, group), -9);
        }
        long[] wrong = {0, 1, 9999, 10000, 10501, 10999, 11001, 19001, 20091, 21059, 21901, 22100, 23000, 24100, 25001,
            26000, 29000, 30000, 31001, 39999, 40601, 40999, 41601, 42000, 42001, 49001, 50001, 50010, 50100, 51000,
            60000, 60001, 60003, 60102, 61002, 71235, 79999, 80001, 80179, 80180, 81000, 90001, 90100, 91000};
        for (long group : wrong) {
            check.due("the command " + group, keeper.runScript(1, group), 0);
        }
        FoucaultKeeper hit = Check.loaded("F+90060009000p001");
        hit.swing(5);
        long[] seen = {60000, 90001, 80001, 78945};
        long[] unseen = {60001, 90000, 90101, 60100, 80000, 80002, 78946, 88945};
        check.due("its height", hit.about(7), 8945);
        for (long group : seen) {
            check.due("behind a hit, " + group, hit.runScript(1, group), -9);
        }
        for (long group : unseen) {
            check.due("behind a hit, " + group, hit.runScript(1, group), 0);
        }
        // The direction is 75; 60 to 119 are the degree 1.
        hit.nudge(44);
        check.due("119 is in the degree 1", hit.runScript(1, 80001), -9);
        hit.nudge(1);
        check.due("120 is not", hit.runScript(1, 80001), 0);
        check.due("120 is in the degree 2", hit.runScript(1, 80002), -9);
    }

    private static void promise29Digits(Check check) {
        FoucaultKeeper keeper = new FoucaultKeeper();
        check.due("0 has a group of zeros", keeper.runScript(1, 0), 0);
        check.due("fewer digits: zeros before them", keeper.runScript(2, 10001), 0);
        check.due("99999", keeper.runScript(1, 99999), 0);
        check.due("9999999999", keeper.runScript(2, 99999_99999L), 0);
        check.due("999999999999999", keeper.runScript(3, 99999_99999_99999L), 0);
    }

    private static void promise29Refused(Check check) {
        FoucaultKeeper keeper = new FoucaultKeeper();
        int[] counts = {0, -1, 4, 0, 1, 1, 1, 2, 2, 3, 3, 1, 3};
        long[] scripts = {0, 0, 0, 50000, -1, 100000, 50000_50000L, 10000000000L, -50000, 1000000000000000L, -1,
            Long.MIN_VALUE, Long.MAX_VALUE};
        for (int i = 0; i < counts.length; i++) {
            int n = counts[i];
            long script = scripts[i];
            check.refused(keeper, "runScript(" + n + ", " + script + ")", IllegalArgumentException.class,
                    () -> keeper.runScript(n, script));
        }
    }

    private static void promise30(Check check) {
        FoucaultKeeper keeper = Check.loaded("F+90060099000p001p002p010p011p100");
        for (int wrong : new int[] {0, -1, 61, Integer.MAX_VALUE, Integer.MIN_VALUE}) {
            check.refused(keeper, "simulate(1, " + wrong + ")", IllegalArgumentException.class,
                    () -> keeper.simulate(1, wrong));
        }
        check.changesNothing(keeper, "simulate(5, 60)", () -> keeper.simulate(5, 60));
        check.refused(keeper, "undo behind simulate", IllegalStateException.class, keeper::undo);
        String[] texts = {"F+90060099000p001p002p010p011p100", "F-90900990040p179", "F+60100990500p001p002p003"};
        long[] seeds = {0, 1, -1, 77, 5, 6, 7, 8, 9, Long.MAX_VALUE, Long.MIN_VALUE, 123456789012345678L};
        for (String text : texts) {
            FoucaultKeeper played = Check.loaded(text);
            played.set(3, 230);
            for (long seed : seeds) {
                for (int m : new int[] {1, 2, 7, 30, 60}) {
                    check.due(text + " simulate(" + seed + ", " + m + ")", played.simulate(seed, m),
                            played(text, seed, m));
                }
            }
        }
    }

    /** The same rounds with the public actions, on a keeper that is loaded with the same text. */
    private static long played(String text, long seed, int m) {
        FoucaultKeeper keeper = Check.loaded(text);
        keeper.set(3, 230);
        long x = seed;
        long fallen = 0;
        for (int round = 0; round < m; round++) {
            x = x * 6364136223846793005L + 1442695040888963407L;
            long r = (x >> 33) & 0x7fffffffL;
            if (r % 8 == 0) {
                keeper.nudge((int) (r / 8 % 121) - 60);
            }
            if (r % 8 == 1) {
                keeper.push((int) (1 + r / 8 % 500));
            }
            fallen += keeper.swing((int) (1 + r / 1024 % 20));
        }
        return 10000 * fallen + keeper.about(5);
    }
}
