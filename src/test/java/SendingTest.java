/** Promises 14 to 19: whom to send, and families that pull. */
final class SendingTest {
    private static final int NONE = GraveRegatta.NONE;

    private SendingTest() {
    }

    static void run() {
        costs();
        reaching();
        sending();
        thrift();
        pulling();
    }

    private static void costs() {
        // 3 columns, 1 row: arms -2, 0, 2; stiff 5: the first alone (4 each side) does not tip it, the second does
        GraveRegatta x = Bench.told("lake:raft 3 1;mourner 2 1 0;mourner 3 4 0;", "lake:grave 0 9;");
        Bench.due("14: nobody", x.cost(0, 0, 0), 0);
        Bench.due("14: right", x.cost(0, 1, 0), 4);
        Bench.due("14: left", x.cost(0, -1, 0), 4);
        Bench.due("14: one row does not lean", x.cost(0, 0, 1), NONE);
        Bench.due("14: by the graves alone", x.cost(1, -1, -1), 0);
        Bench.due("14: none do it", x.cost(1, 0, 0), NONE);
        for (int wrong : new int[] {-2, 2, Integer.MAX_VALUE}) {
            Bench.due("14: other numbers", x.cost(0, wrong, 0), NONE);
            Bench.due("14: other numbers", x.cost(0, 0, wrong), NONE);
        }
        Bench.due("14: no such lake", x.cost(2, 0, 0), NONE);
        // both together tip it where neither does; a wind that the lake's wreaths would catch does not count
        x = Bench.told("lake:raft 2 2;mourner 3 2 0;mourner 3 5 1;wreath 9;leak 0 9;");
        for (int wrong : new int[] {-2, 2, 3, Integer.MIN_VALUE}) {
            for (int other = -1; other <= 1; other++) {
                Bench.due("14: other numbers", x.cost(0, wrong, other), NONE);
                Bench.due("14: other numbers", x.cost(0, other, wrong), NONE);
            }
        }
        Bench.due("14: together", x.cost(0, 1, 0), 7);
        Bench.due("14: together", x.cost(0, -1, 1), 7);
        Bench.due("14: a grave held even", Bench.told("lake:raft 2 1;grave 0 6;mourner 1 3 0;mourner 6 9 0;").cost(0, 0, 0), 3);
        Bench.due("14: a grave held even, x alone",
                Bench.told("lake:raft 3 2;grave 0 6;mourner 4 3 0;").cost(0, 0, -1), 3);
    }

    private static void reaching() {
        GraveRegatta x = Bench.told("lake:raft 2 2;lake 6 6;at 2 2;mourner 6 2 0;", "lake:raft 2 2;lake 6 6;at 2 2;grave 3 6;");
        Bench.due("15: behind no hour", x.reach(0, 0, NONE, NONE), 1);
        Bench.due("15: behind no hour", x.reach(0, 0, 2, 2), 1);
        Bench.due("15: behind no hour", x.reach(0, 0, 2, 3), 0);
        // one stands on a corner: both axes; none along one alone
        Bench.due("15: behind an hour", x.reach(0, 1, NONE, NONE), 5);
        Bench.due("15: askew", x.reach(0, 1, 3, 1), 1);
        Bench.due("15: not along one axis", x.reach(0, 1, 3, 2), 0);
        Bench.due("15: behind just so many hours", x.reach(1, 1, 2, 2), 0);
        Bench.due("15: one way", x.reach(1, 1, NONE, NONE), 1);
        Bench.due("15: at the shore", x.reach(1, 2, 4, 4), 1);
        Bench.due("15: it stays at the shore", x.reach(1, 12, 4, 4), 1);
        Bench.due("15: by the shores all of them", x.reach(0, 12, NONE, NONE), 25);
        Bench.due("15: no raft can lie there", x.reach(0, 12, 5, 5), 0);
        for (int wrong : new int[] {-2, 6, 12}) {
            Bench.due("15: no such cell", x.reach(0, 1, wrong, 0), NONE);
            Bench.due("15: no such cell", x.reach(0, 1, 0, wrong), NONE);
        }
        Bench.due("15: no such cell", x.reach(0, 1, NONE, 0), NONE);
        Bench.due("15: no such cell", x.reach(0, 1, 0, NONE), NONE);
        Bench.due("15: another n", x.reach(0, -1, NONE, NONE), NONE);
        Bench.due("15: another n", x.reach(0, 13, NONE, NONE), NONE);
        Bench.due("15: no such lake", x.reach(2, 1, NONE, NONE), NONE);
    }

    private static void sending() {
        // 2 to the right shore, then 4 to the left one; m 0 is dear and enough, 1 and 2 do it together
        String lake = "raft 2 1;lake 6 2;at 2 0;";
        GraveRegatta x = Bench.told("lake:" + lake + "mourner 6 5 0;mourner 3 1 0;mourner 3 1 1;", "lake:" + lake);
        Bench.due("16: soon", x.sends(0, 0), 6);
        Bench.due("16: wept", x.sends(0, 1), 12);
        Bench.due("16: each alone can be done without", x.sends(0, 2), 7);
        Bench.due("16: never soon", x.sends(1, 0), NONE);
        Bench.due("16: never wept", x.sends(1, 1), NONE);
        Bench.due("16: not quiet", x.sends(1, 2), 0);
        x = Bench.told("lake:" + lake + "mourner 6 5 0;mourner 2 1 0;", "lake:" + lake + "brothers 0 3;mourner 6 5 0;");
        Bench.due("16: one alone can be done without", x.sends(0, 2), 2);
        Bench.due("16: other brothers", x.sends(1, 0), 2);
        x = Bench.told("lake:raft 4 1;lake 4 2;mourner 1 9 1;", "lake:raft 2 2;grave 1 6;lake 4 4;brothers 0 1;");
        Bench.due("16: touched at first", x.sends(0, 0), 0);
        Bench.due("16: touched at first", x.sends(0, 1), 0);
        Bench.due("16: nobody is wanted", x.sends(0, 2), 1);
        Bench.due("16: it goes by itself", x.sends(1, 0), 2);
        Bench.due("16: from the first cell", Bench.told("lake:raft 2 2;grave 3 6;lake 4 4;brothers 1 2;").sends(0, 0), 2);
        Bench.due("16: another what", x.sends(0, 3), NONE);
        Bench.due("16: another what", x.sends(0, -1), NONE);
        Bench.due("16: no such lake", x.sends(2, 0), NONE);
        // two together weep less than the one who is heavy enough alone
        x = Bench.told("lake:raft 1 2;lake 2 8;brothers 0 2;grave 0 9;grave 1 9;mourner 6 9 0;mourner 3 4 0;mourner 3 4 1;");
        Bench.due("16: the least tears", x.sends(0, 1), 6 * 8);
    }

    private static void thrift() {
        GraveRegatta x = Bench.told("lake:raft 2 2;lake 6 6;at 2 2;mourner 6 2 0;rock 5 0;", "lake:raft 2 2;lake 6 6;grave 3 6;");
        Bench.due("17: where it lies", x.thrift(0, 2, 2), 0);
        Bench.due("17: an hour", x.thrift(0, 3, 3), 2);
        Bench.due("17: two hours", x.thrift(0, 2, 4), 4);
        Bench.due("17: along the shore", x.thrift(0, 3, 4), 6);
        Bench.due("17: on a rock", x.thrift(0, 4, 0), NONE);
        Bench.due("17: by itself", x.thrift(1, 4, 4), 0);
        Bench.due("17: never", x.thrift(1, 0, 1), NONE);
        Bench.due("17: out of the lake", x.thrift(0, 5, 5), NONE);
        for (int wrong : new int[] {-1, 6, 13, Integer.MIN_VALUE}) {
            Bench.due("17: no such cell", x.thrift(0, wrong, 0), NONE);
            Bench.due("17: no such cell", x.thrift(0, 0, wrong), NONE);
        }
        Bench.due("17: no such lake", x.thrift(-1, 0, 0), NONE);
    }

    private static void pulling() {
        // 3 columns, 1 row: KIN 1 (weight 4: 8 of list) is stronger than KIN 0 (weight 3: 6)
        GraveRegatta x = Bench.told("lake:raft 3 1;at 3 3;mourner 3 1 0;mourner 4 2 1;", "lake:");
        // couples: 3 * KIN 0's choice, and KIN 1's; 1 the first column, 2 the last one; 2 hours
        int[][] want = {{0, 0}, {20, -24}, {-20, 16}, {18, -20}, {18, -24}, {-2, -4}, {-22, 20}, {-2, -4}, {-22, 16}};
        for (int couple = 0; couple < 9; couple++) {
            Bench.due("19: KIN 0 by " + couple, x.gain(0, 2, couple, 0), want[couple][0]);
            Bench.due("19: KIN 1 by " + couple, x.gain(0, 2, couple, 1), want[couple][1]);
        }
        Bench.due("18: how many rest", x.pull(0, 2, NONE), 1);
        Bench.due("18: which rests", x.pull(0, 2, 0), 5);
        Bench.due("18: no further one", x.pull(0, 2, 1), -2);
        Bench.due("18: no such k", x.pull(0, 2, -2), -2);
        Bench.due("18: without mourners all rest", x.pull(1, 12, NONE), 9);
        Bench.due("18: without mourners all rest", x.pull(1, 12, 8), 8);
        for (int n : new int[] {0, 13, -1}) {
            Bench.due("18: another n", x.pull(0, n, NONE), -2);
            Bench.due("19: another n", x.gain(0, n, 0, 0), -1000000);
        }
        Bench.due("18: no such lake", x.pull(2, 1, NONE), -2);
        Bench.due("19: no such lake", x.gain(2, 1, 0, 0), -1000000);
        Bench.due("19: no such couple", x.gain(0, 1, 9, 0), -1000000);
        Bench.due("19: no such couple", x.gain(0, 1, -1, 0), -1000000);
        Bench.due("19: no such kin", x.gain(0, 1, 0, 2), -1000000);
        Bench.due("19: no such kin", x.gain(0, 1, 0, -1), -1000000);
        Bench.due("19: at the shore", x.gain(0, 12, 2, 1), 10 * 2 - 12 * 2);
    }
}
