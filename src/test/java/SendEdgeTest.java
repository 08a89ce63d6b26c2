/** Edges of whom to send and of families that pull: term 3, promises 14 to 19, each under its words. */
final class SendEdgeTest {
    private static final int NONE = GraveRegatta.NONE;
    private static final int MISSING = -2;
    private static final int NO_SUM = -1000000;
    private static final int LEAST = Integer.MIN_VALUE;
    private static final int MOST = Integer.MAX_VALUE;

    private SendEdgeTest() {
    }

    static void run() {
        asTold();
        costs();
        costsOfNone();
        reaching();
        reachingByOneWay();
        reachRefused();
        soon();
        wept();
        quiet();
        thrift();
        twoLakes();
        pulling();
        pullingOnRows();
        gains();
        resting();
        pullRefused();
    }

    private static GraveRegatta lake(String text) {
        return Bench.told("lake:" + text);
    }

    private static void dueCost(String lake, int x, int y, int want) {
        Bench.due("<" + lake + "> COST " + x + " " + y, lake(lake).cost(0, x, y), want);
    }

    private static void asTold() {
        Document.says("term 3", "(Of a LAKE as told: calm, no FROST, no LEAKS; each HOUR MOURNERS, as many as one likes, stand where "
                + "one likes, all others ashore.)");
        // leaks that would sink it, wreaths that a wind would catch
        String lake = "raft 2 1;lake 6 2;at 2 0;mourner 6 2 0;mourner 6 3 0;";
        for (String more : new String[] {"", "leak 0 9;float 1;", "leak 1 9;leak 1 9;stiff 11;", "wreath 9;drag 1;"}) {
            GraveRegatta x = lake(lake + more);
            int tears = more.contains("stiff") ? 5 : 2;
            Bench.due(more + " COST", x.cost(0, 1, 0), tears);
            Bench.due(more + " COST", x.cost(0, -1, 0), tears);
            Bench.due(more + " COST", x.cost(0, 0, 0), 0);
            Bench.due(more + " REACH", x.reach(0, 12, NONE, NONE), 5);
            Bench.due(more + " SOON", x.sends(0, 0), 6);
            Bench.due(more + " WEPT", x.sends(0, 1), 6 * tears);
            Bench.due(more + " THRIFT", x.thrift(0, 0, 0), 2 * tears);
        }
        // all of them on one place; nobody
        String people = "raft 2 1;" + "mourner 6 1 0;".repeat(5);
        dueCost(people + "stiff 29;", 1, 0, 5);
        dueCost(people + "stiff 29;", -1, 0, 5);
        dueCost(people + "stiff 30;", 1, 0, NONE);
        dueCost(people + "stiff 0;", 0, 0, 0);
        dueCost(people + "stiff 0;", 1, 0, 1);
    }

    private static void costs() {
        Document.says("term 3", "COST of a DRIFT (of both axes): the least TEARS, all of those aboard together, by which LEANS are "
                + "just that;");
        // each of four places leans it both ways; with two one way alone
        String square = "raft 2 2;mourner 6 4 0;";
        for (int x = -1; x <= 1; x++) {
            for (int y = -1; y <= 1; y++) {
                int alone = x == 0 && y == 0 ? 0 : x != 0 && y != 0 ? 4 : NONE;
                dueCost(square, x, y, alone);
                int two = x == 0 && y == 0 ? 0 : x != 0 && y != 0 ? 4 : 7;
                dueCost(square + "mourner 6 3 1;", x, y, x != 0 && y != 0 ? 3 : two);
            }
        }
        // of those that do it the least: the dear one alone, the two cheap ones, the one without tears
        dueCost("raft 2 1;mourner 6 9 0;mourner 3 4 0;mourner 3 4 0;", 1, 0, 8);
        dueCost("raft 2 1;mourner 6 7 0;mourner 3 4 0;mourner 3 4 0;", 1, 0, 7);
        dueCost("raft 2 1;mourner 6 9 0;mourner 3 4 0;mourner 3 4 0;mourner 6 0 0;", 1, 0, 0);
        // as much as STIFF does not lean
        dueCost("raft 2 1;mourner 5 1 0;", 1, 0, NONE);
        dueCost("raft 2 1;mourner 5 1 0;stiff 4;", 1, 0, 1);
        // the graves lean it; some hold it even, or lean it the other way
        dueCost("raft 2 1;grave 1 6;mourner 1 5 0;mourner 6 2 0;", 1, 0, 0);
        dueCost("raft 2 1;grave 1 6;mourner 1 5 0;mourner 6 2 0;", 0, 0, 2);
        dueCost("raft 2 1;grave 1 6;mourner 1 1 0;mourner 6 2 0;", 0, 0, 1);
        dueCost("raft 2 1;grave 1 5;mourner 5 1 0;mourner 6 2 0;", -1, 0, 3);
        dueCost("raft 2 1;grave 1 6;mourner 6 1 0;mourner 6 2 0;", -1, 0, 3);
        dueCost("raft 1 2;grave 1 6;mourner 6 1 0;mourner 6 2 0;", 0, -1, 3);
        // in the middle one is aboard for nothing: ashore is less
        dueCost("raft 3 1;mourner 6 9 0;", 0, 0, 0);
        dueCost("raft 3 3;mourner 3 1 0;", 1, 0, 1);
        dueCost("raft 3 3;mourner 3 1 0;", 1, 1, 1);
        dueCost("raft 3 3;mourner 2 1 0;", 1, 1, NONE);
    }

    private static void costsOfNone() {
        Document.says("term 3", "none, if none do it.");
        dueCost("", 1, 0, NONE);
        dueCost("", 0, 0, 0);
        dueCost("grave 5 30;", 0, 0, NONE);
        dueCost("grave 5 30;", 1, 1, 0);
        dueCost("raft 1 1;" + "mourner 6 1 0;".repeat(5), 1, 0, NONE);
        dueCost("raft 4 1;stiff 0;mourner 6 1 0;", 0, 1, NONE);
        dueCost("raft 1 4;stiff 0;mourner 6 1 0;", 1, 0, NONE);
        Document.says("promise 14", "COST of a DRIFT, -1 .. 1 each.");
        GraveRegatta x = Bench.told("lake:raft 2 2;mourner 6 4 0;", "lake:raft 2 2;grave 0 9;");
        Bench.due("of the first", x.cost(0, -1, 1), 4);
        Bench.due("of the second", x.cost(1, -1, -1), 0);
        Document.says("promise 14", "NONE: none do it, there is none such, or other numbers.");
        Bench.due("none do it", x.cost(0, 0, 1), NONE);
        for (int wrong : new int[] {-2, 2, 3, -3, 4, -4, MOST, LEAST}) {
            for (int other = -1; other <= 1; other++) {
                Bench.due("x " + wrong, x.cost(0, wrong, other), NONE);
                Bench.due("y " + wrong, x.cost(0, other, wrong), NONE);
                Bench.due("no such LAKE", x.cost(wrong, other, other), NONE);
            }
        }
        Bench.due("no such LAKE", x.cost(-1, 0, 0), NONE);
        Bench.due("no second LAKE", lake("").cost(1, 0, 0), NONE);
    }

    private static void reaching() {
        Document.says("term 3", "REACH n: CELLS X, Y at which the RAFT can lie behind n HOURS, 0 .. 12: how many; whether one is.");
        // all nine ways, from the corner of a lake of 12 by 12
        GraveRegatta x = lake("raft 2 2;lake 12 12;mourner 6 0 0;mourner 6 0 0;");
        for (int n = 0; n <= 12; n++) {
            int side = Math.min(n + 1, 11);
            Bench.due("REACH " + n, x.reach(0, n, NONE, NONE), side * side);
            Bench.due("the last of REACH " + n, x.reach(0, n, side - 1, side - 1), 1);
            Bench.due("beyond REACH " + n, x.reach(0, n, side, side - 1), 0);
            Bench.due("beyond REACH " + n, x.reach(0, n, side - 1, side), 0);
            Bench.due("where it lay at first, behind " + n, x.reach(0, n, 0, 0), 1);
        }
        Bench.due("no raft can lie there", x.reach(0, 12, 11, 11), 0);
        // a raft of one cell never leans
        x = lake("raft 1 1;at 3 4;" + "mourner 6 0 0;".repeat(5));
        for (int n = 0; n <= 12; n++) {
            Bench.due("REACH " + n, x.reach(0, n, NONE, NONE), 1);
            Bench.due("REACH " + n, x.reach(0, n, 3, 4), 1);
        }
        // rocks: a wall with no gap, and with one
        String wall = "raft 2 1;lake 6 2;stiff 0;mourner 1 0 0;rock 3 1;";
        Bench.due("the wall", lake(wall + "rock 3 0;").reach(0, 12, NONE, NONE), 2);
        Bench.due("its gap", lake(wall).reach(0, 12, NONE, NONE), 5);
        Bench.due("a lake as small as the raft", lake("lake 3 2;mourner 6 0 0;").reach(0, 12, NONE, NONE), 1);
        // drawn into the first corner: there it lies and stays
        x = lake("raft 2 2;at 2 1;grave 0 9;");
        Bench.due("on the way", x.reach(0, 1, 1, 0), 1);
        for (int n = 2; n <= 12; n++) {
            Bench.due("in the corner behind " + n, x.reach(0, n, 0, 0), 1);
            Bench.due("nowhere else behind " + n, x.reach(0, n, NONE, NONE), 1);
        }
    }

    private static void reachingByOneWay() {
        Document.says("promise 15", "REACH n: how many CELLS (x NONE, y NONE), or whether it can lie at X x, Y y: 1, 0.");
        // it goes right and down by itself, and nobody can hold it
        GraveRegatta x = lake("raft 2 2;lake 5 7;grave 3 9;");
        int[][] at = {{0, 0}, {1, 1}, {2, 2}, {3, 3}, {3, 4}, {3, 5}, {3, 5}};
        for (int n = 0; n < at.length; n++) {
            Bench.due("one CELL behind " + n, x.reach(0, n, NONE, NONE), 1);
            for (int other = 0; other < 5; other++) {
                Bench.due("at " + at[other][0] + " " + at[other][1] + " behind " + n,
                        x.reach(0, n, at[other][0], at[other][1]), other == n || other == 5 && n > 5 ? 1 : 0);
            }
        }
        Bench.due("behind 12", x.reach(0, 12, 3, 5), 1);
    }

    private static void reachRefused() {
        Document.says("promise 15", "NONE: there is none such, no such CELL, or another n.");
        GraveRegatta x = lake("lake 5 7;mourner 6 0 0;");
        for (int n : new int[] {-1, -2, 13, 14, MOST, LEAST}) {
            Bench.due("n " + n, x.reach(0, n, NONE, NONE), NONE);
            Bench.due("n " + n, x.reach(0, n, 0, 0), NONE);
        }
        for (int wrong : new int[] {-2, 7, 8, 11, 12, MOST, LEAST}) {
            Bench.due("x " + wrong, x.reach(0, 1, wrong, 0), NONE);
            Bench.due("y " + wrong, x.reach(0, 1, 0, wrong), NONE);
            Bench.due("both " + wrong, x.reach(0, 1, wrong, wrong), NONE);
            Bench.due("x NONE", x.reach(0, 1, NONE, wrong), NONE);
            Bench.due("y NONE", x.reach(0, 1, wrong, NONE), NONE);
            Bench.due("LAKE " + wrong, x.reach(wrong, 1, 0, 0), NONE);
        }
        Bench.due("x at WIDTH", x.reach(0, 1, 5, 0), NONE);
        Bench.due("x below WIDTH", x.reach(0, 1, 4, 0), 0);
        Bench.due("y below HEIGHT", x.reach(0, 1, 0, 6), 0);
        Bench.due("x NONE alone", x.reach(0, 1, NONE, 0), NONE);
        Bench.due("y NONE alone", x.reach(0, 1, 0, NONE), NONE);
        Bench.due("LAKE -1", x.reach(-1, 1, 0, 0), NONE);
        Bench.due("LAKE 1", x.reach(1, 1, 0, 0), NONE);
    }

    private static void dueSends(String lake, int soon, int wept, int quiet) {
        GraveRegatta x = lake(lake);
        Bench.due("<" + lake + "> SOON", x.sends(0, 0), soon);
        Bench.due("<" + lake + "> WEPT", x.sends(0, 1), wept);
        Bench.due("<" + lake + "> QUIET", x.sends(0, 2), quiet);
    }

    private static void soon() {
        Document.says("term 3", "SOON: the fewest HOURS by which both BROTHERS' SIDES are TOUCHED;");
        // at first both, one, none
        dueSends("lake 3 4;", 0, 0, 0);
        dueSends("lake 3 4;mourner 6 9 0;", 0, 0, 1);
        dueSends("raft 2 1;lake 3 4;mourner 6 9 0;", 1, 9, 0);
        dueSends("raft 2 1;lake 4 4;at 1 0;mourner 6 9 0;", 3, 27, 0);
        dueSends("raft 2 1;lake 5 4;at 1 0;mourner 6 9 0;", 4, 36, 0);
        dueSends("raft 2 1;lake 5 4;at 2 0;mourner 6 9 0;", 4, 36, 0);
        // both by one hour, into the corner; by the sides told, and no others
        dueSends("raft 2 2;lake 6 6;at 3 3;mourner 6 9 0;brothers 1 2;", 1, 9, 0);
        dueSends("raft 2 2;lake 6 6;at 3 3;mourner 6 9 0;brothers 2 1;", 1, 9, 0);
        dueSends("raft 2 2;lake 6 6;at 1 1;mourner 6 9 0;brothers 0 3;", 1, 9, 0);
        dueSends("raft 2 2;lake 6 6;at 1 3;mourner 6 9 0;brothers 2 3;", 1, 9, 0);
        dueSends("raft 2 2;lake 6 6;at 3 1;mourner 6 9 0;brothers 0 1;", 1, 9, 0);
        dueSends("raft 1 2;lake 6 6;at 3 1;mourner 6 9 0;brothers 0 2;", 5, 45, 0);
        // from the first corner to the other two sides
        dueSends("raft 2 2;lake 6 6;mourner 6 9 0;brothers 1 2;", 4, 36, 0);
        dueSends("raft 2 2;lake 6 5;mourner 6 9 0;brothers 2 1;", 4, 36, 0);
        dueSends("raft 2 1;lake 6 6;at 3 1;mourner 6 9 0;brothers 0 2;", NONE, NONE, 0);
        Document.says("promise 16", "NONE: never (0, 1), there is none such, or for another what.");
        dueSends("raft 1 1;mourner 6 9 0;", NONE, NONE, 0);
        dueSends("raft 2 1;at 2 0;mourner 5 9 0;", NONE, NONE, 0);
        dueSends("raft 2 1;lake 6 2;stiff 0;mourner 1 0 0;rock 3 0;rock 3 1;", NONE, NONE, 0);
        // one side it touches by itself, the other one never
        dueSends("raft 2 1;lake 6 2;at 3 0;grave 1 30;mourner 6 1 0;", NONE, NONE, 0);
        GraveRegatta x = lake("mourner 6 9 0;");
        for (int wrong : new int[] {-1, -2, 3, 4, MOST, LEAST}) {
            Bench.due("what " + wrong, x.sends(0, wrong), NONE);
            Bench.due("LAKE " + wrong, x.sends(wrong, 0), NONE);
            Bench.due("LAKE " + wrong, x.sends(wrong, 2), NONE);
        }
        Bench.due("LAKE 1", x.sends(1, 0), NONE);
    }

    private static void wept() {
        Document.says("term 3", "WEPT: the least TEARS, all HOURS together, by which they are;");
        // it goes to the right by itself: 1 hour to the right and 4 back are sooner, 3 to the left first weep less
        dueSends("raft 2 1;lake 6 2;at 3 0;grave 1 6;mourner 6 1 0;mourner 6 1 0;", 5, 6, 0);
        dueSends("raft 2 1;lake 6 2;at 3 0;grave 1 6;mourner 6 5 0;mourner 6 4 0;", 5, 27, 0);
        // nobody weeps
        dueSends("raft 2 1;lake 6 2;at 3 0;mourner 6 0 0;", 5, 0, 0);
        dueSends("raft 2 2;lake 6 6;at 2 2;grave 3 9;brothers 1 2;", 2, 0, 0);
        Document.says("promise 16", "What 0: SOON, 1: WEPT, 2: QUIET (bits; 0 without SOON).");
        GraveRegatta x = Bench.told("lake:raft 2 1;lake 3 4;mourner 6 9 0;", "lake:raft 2 1;lake 4 4;mourner 6 8 0;");
        Bench.due("of the first", x.sends(0, 1), 9);
        Bench.due("of the second", x.sends(1, 1), 16);
        Bench.due("of the second", x.sends(1, 0), 2);
    }

    private static void quiet() {
        Document.says("term 3", "QUIET: the MOURNERS (bits) of whom one does without, each alone, and SOON is no later.");
        String lake = "raft 2 1;lake 4 2;at 1 0;";
        dueSends(lake + "mourner 6 1 0;", 3, 3, 0);
        dueSends(lake + "mourner 6 1 0;mourner 5 0 0;", 3, 3, 2);
        dueSends(lake + "mourner 5 0 0;mourner 6 1 0;", 3, 3, 1);
        // each of them alone, though not both
        dueSends(lake + "mourner 6 1 0;mourner 6 2 0;", 3, 3, 3);
        dueSends(lake + "mourner 3 1 0;mourner 3 2 0;mourner 3 3 0;", 3, 9, 7);
        dueSends(lake + "mourner 3 1 0;mourner 3 2 0;", 3, 9, 0);
        dueSends(lake + "mourner 1 0 0;".repeat(4) + "mourner 6 0 0;", 3, 0, 15);
        // it goes to the right by itself, and to the left by both of them alone
        dueSends("raft 2 1;lake 4 3;at 1 0;grave 1 6;mourner 6 1 0;mourner 6 1 0;", 3, 2, 0);
        Document.says("promise 16", "2: QUIET (bits; 0 without SOON).");
        dueSends("mourner 1 0 0;at 1 0;", NONE, NONE, 0);
        dueSends("", NONE, NONE, 0);
        dueSends("lake 3 2;" + "mourner 1 0 0;".repeat(5), 0, 0, 31);
        // straight through a gap of its own height: without one of two it goes askew, and is an hour later
        String gap = "raft 2 2;lake 6 6;at 0 2;rock 3 0;rock 3 1;rock 3 4;rock 3 5;mourner 6 1 0;mourner 6 1 0;";
        dueSends(gap, 4, 5, 0);
        dueSends(gap + "mourner 6 1 0;", 4, 5, 7);
        dueSends(gap.replace("mourner 6 1 0;mourner 6 1 0;", "mourner 6 1 0;"), 5, 5, 0);
    }

    private static void thrift() {
        Document.says("term 3", "THRIFT: the least TEARS by which the RAFT comes to lie at X, Y.");
        Document.says("promise 17", "THRIFT.");
        GraveRegatta x = lake("raft 2 1;lake 6 2;at 3 0;grave 1 6;mourner 6 5 0;mourner 6 4 0;rock 5 1;");
        int[] want = {27, 18, 9, 0, 0};
        for (int column = 0; column < 5; column++) {
            Bench.due("at " + column, x.thrift(0, column, 0), want[column]);
        }
        Document.says("promise 17", "NONE: never, there is none such, or no such CELL.");
        Bench.due("out of the lake", x.thrift(0, 5, 0), NONE);
        Bench.due("never", x.thrift(0, 0, 1), NONE);
        Bench.due("on a rock", x.thrift(0, 4, 1), NONE);
        // as far as one likes: more than 12 hours, and by shores a way along one axis
        x = lake("raft 2 2;lake 12 12;mourner 6 9 0;");
        Bench.due("where it lies", x.thrift(0, 0, 0), 0);
        Bench.due("the other corner", x.thrift(0, 10, 10), 90);
        Bench.due("along the shore", x.thrift(0, 10, 0), 90);
        Bench.due("one along the shore", x.thrift(0, 1, 0), 9);
        Bench.due("one off it", x.thrift(0, 2, 1), 18);
        x = lake("raft 1 2;lake 2 12;mourner 6 9 0;");
        Bench.due("ten hours", x.thrift(0, 0, 10), 90);
        Bench.due("never to the side", x.thrift(0, 1, 0), NONE);
        for (int wrong : new int[] {-1, -2, 12, 13, MOST, LEAST}) {
            Bench.due("x " + wrong, x.thrift(0, wrong, 0), NONE);
            Bench.due("y " + wrong, x.thrift(0, 0, wrong), NONE);
            Bench.due("LAKE " + wrong, x.thrift(wrong, 0, 0), NONE);
        }
        Bench.due("x at WIDTH", x.thrift(0, 2, 0), NONE);
        Bench.due("both NONE", x.thrift(0, NONE, NONE), NONE);
        Bench.due("LAKE 1", x.thrift(1, 0, 0), NONE);
    }

    /** A lake that is asked behind a richer one has nothing of that: neither its ways, nor its cells. */
    private static void twoLakes() {
        Document.says("promise 17", "THRIFT.");
        String poor = "raft 2 2;lake 6 6;at 2 2;mourner 6 5 0;";
        GraveRegatta x = Bench.told("lake:raft 3 3;lake 12 12;mourner 6 1 0;mourner 6 1 0;mourner 6 1 0;stiff 0;", "lake:" + poor);
        for (int round = 0; round < 2; round++) {
            Bench.due("COST of the first", x.cost(0, 1, 0), 1);
            Bench.due("COST of the second", x.cost(1, 1, 0), NONE);
            Bench.due("COST of the second", x.cost(1, 1, 1), 5);
            Bench.due("REACH of the first", x.reach(0, 12, NONE, NONE), 100);
            Bench.due("REACH of the second", x.reach(1, 1, NONE, NONE), 5);
            Bench.due("THRIFT of the first", x.thrift(0, 9, 9), 9);
            Bench.due("THRIFT of the second", x.thrift(1, 4, 4), 10);
            Bench.due("SOON of the first", x.sends(0, 0), 9);
            Bench.due("SOON of the second", x.sends(1, 0), 6);
            Bench.due("QUIET of the first", x.sends(0, 2), 7);
            Bench.due("QUIET of the second", x.sends(1, 2), 0);
            Bench.due("GAIN in the first", x.gain(0, 3, 6, 0), -30 - 9);
            Bench.due("GAIN in the second", x.gain(1, 3, 6, 0), -20 - 15);
        }
        x = Bench.told("lake:raft 2 2;grave 3 9;", "lake:raft 2 2;");
        Bench.due("by its graves", x.cost(0, 1, 1), 0);
        Bench.due("not by the other's", x.cost(1, 1, 1), NONE);
    }

    /** GAIN of both by each couple. */
    private static void dueGains(String lake, int n, int[][] want) {
        GraveRegatta x = lake(lake);
        for (int couple = 0; couple < 9; couple++) {
            for (int kin = 0; kin < 2; kin++) {
                Bench.due("<" + lake + "> " + n + " hours, couple " + couple + ", KIN " + kin, x.gain(0, n, couple, kin),
                        want[couple][kin]);
            }
        }
    }

    private static void pulling() {
        Document.says("term 3", "PULL: KIN 0 wants it to the left, KIN 1 to the right: each KIN chooses: 0 all of it ashore, 1 all on "
                + "the first column, 2 all on the last one (each on row 0), for n HOURS, 1 .. 12;");
        // KIN 1 is two who move it together alone; nobody is of KIN 0
        String two = "raft 2 1;lake 8 2;at 2 0;mourner 3 1 1;mourner 3 2 1;";
        for (int n = 1; n <= 12; n++) {
            int left = Math.min(n, 2);
            int right = Math.min(n, 4);
            int[] stay = {0, 0};
            int[] back = {10 * left, -10 * left - 3 * n};
            int[] on = {-10 * right, 10 * right - 3 * n};
            dueGains(two, n, new int[][] {stay, back, on, stay, back, on, stay, back, on});
        }
        // one column: the first is the last, and nothing moves it
        int[] one = {0, -4};
        int[] none = {0, 0};
        dueGains("raft 1 2;at 2 2;mourner 6 2 1;", 2, new int[][] {none, one, one, none, one, one, none, one, one});
        // three columns: the last one is the third
        dueGains("raft 3 1;at 3 3;mourner 3 1 0;mourner 3 0 1;", 2, new int[][] {{0, 0}, {20, -20}, {-20, 20}, {18, -20},
            {18, -20}, {-2, 0}, {-22, 20}, {-2, 0}, {-22, 20}});
    }

    private static void pullingOnRows() {
        Document.says("term 3", "(each on row 0)");
        // on row 0 it goes up, past the rock, and then to the right; on the other row it would be stopped twice
        int[] stay = {0, 0};
        String lake = "raft 2 2;at 2 2;mourner 6 0 1;rock 4 3;";
        GraveRegatta x = lake(lake);
        Bench.due("stopped once", x.gain(0, 1, 2, 1), 0);
        Bench.due("then on", x.gain(0, 2, 2, 1), 10);
        Bench.due("to the left", x.gain(0, 2, 1, 1), -20);
        Bench.due("ashore", x.gain(0, 2, 0, 1), stay[1]);
        // both KINS on one place lean it together
        x = lake("raft 2 1;at 2 2;mourner 3 0 0;mourner 3 0 1;");
        Bench.due("together to the right", x.gain(0, 3, 8, 1), 30);
        Bench.due("together to the left", x.gain(0, 3, 4, 0), 20);
        Bench.due("one alone", x.gain(0, 3, 2, 1), 0);
        Bench.due("against each other", x.gain(0, 3, 5, 1), 0);
        // by the graves alone, all of both ashore
        x = lake("raft 2 1;at 2 2;grave 1 6;mourner 6 9 0;mourner 6 9 1;");
        Bench.due("the graves draw it to the right: KIN 1", x.gain(0, 3, 0, 1), 30);
        Bench.due("the graves draw it to the right: KIN 0", x.gain(0, 3, 0, 0), -30);
        // calm, no leaks
        x = lake("raft 2 1;at 2 2;mourner 6 0 1;leak 0 9;float 1;");
        Bench.due("no leaks", x.gain(0, 4, 2, 1), 40);
    }

    private static void gains() {
        Document.says("term 3", "GAIN: KIN 1 has 10 for each CELL that X is more at the end than at first, less the TEARS of its own "
                + "that are aboard for each HOUR;");
        GraveRegatta x = lake("raft 2 1;lake 12 2;at 5 0;mourner 6 9 1;mourner 1 8 0;");
        Bench.due("an hour", x.gain(0, 1, 2, 1), 10 - 9);
        Bench.due("to the shore, and on", x.gain(0, 12, 2, 1), 10 * 5 - 12 * 9);
        Bench.due("the wrong way", x.gain(0, 12, 1, 1), -10 * 5 - 12 * 9);
        Bench.due("not the other's TEARS", x.gain(0, 1, 5, 1), 10 * 0 - 9);
        Bench.due("ashore", x.gain(0, 12, 0, 1), 0);
        Document.says("term 3", "KIN 0 10 for each CELL less, likewise.");
        Bench.due("nobody of it aboard", x.gain(0, 1, 2, 0), -10);
        Bench.due("nobody of it aboard", x.gain(0, 1, 1, 0), 10);
        Bench.due("its own TEARS", x.gain(0, 3, 4, 0), 30 - 24);
        Bench.due("alone it moves nothing", x.gain(0, 12, 3, 0), -12 * 8);
        Bench.due("ashore", x.gain(0, 12, 0, 0), 0);
        // both at the shore: nothing to be had
        x = lake("raft 2 1;lake 2 2;mourner 6 1 0;mourner 6 2 1;");
        Bench.due("no room", x.gain(0, 12, 3, 0), -12);
        Bench.due("no room", x.gain(0, 12, 2, 1), -24);
        Document.says("promise 19", "GAIN of a KIN by a couple, 0 .. 8, n HOURS.");
        x = Bench.told("lake:raft 2 1;at 2 0;mourner 6 1 1;", "lake:raft 2 1;at 2 0;mourner 6 2 1;");
        Bench.due("of the first", x.gain(0, 1, 8, 1), 9);
        Bench.due("of the second", x.gain(1, 1, 8, 1), 8);
        Document.says("promise 19", "-1000000: there is none such (of any), or another n.");
        for (int wrong : new int[] {-1, -2, 13, 14, MOST, LEAST}) {
            Bench.due("n " + wrong, x.gain(0, wrong, 0, 0), NO_SUM);
            Bench.due("LAKE " + wrong, x.gain(wrong, 1, 0, 0), NO_SUM);
            Bench.due("couple " + wrong, x.gain(0, 1, wrong, 0), NO_SUM);
            Bench.due("KIN " + wrong, x.gain(0, 1, 0, wrong), NO_SUM);
        }
        Bench.due("n 0", x.gain(0, 0, 0, 0), NO_SUM);
        Bench.due("couple 9", x.gain(0, 1, 9, 0), NO_SUM);
        Bench.due("KIN 2", x.gain(0, 1, 0, 2), NO_SUM);
        Bench.due("LAKE 2", x.gain(2, 1, 0, 0), NO_SUM);
    }

    private static void dueRest(String lake, int n, int... couples) {
        GraveRegatta x = lake(lake);
        String name = "<" + lake + "> " + n + " hours ";
        Bench.due(name + "REST", x.pull(0, n, NONE), couples.length);
        for (int k = 0; k < couples.length; k++) {
            Bench.due(name + "REST " + k, x.pull(0, n, k), couples[k]);
        }
        Bench.due(name + "no further one", x.pull(0, n, couples.length), MISSING);
        Bench.due(name + "no further one", x.pull(0, n, 9), MISSING);
    }

    private static void resting() {
        Document.says("term 3", "REST: couples (3 * KIN 0's, and KIN 1's) by which neither gains by changing alone;");
        // nobody: to change is no gain
        dueRest("", 1, 0, 1, 2, 3, 4, 5, 6, 7, 8);
        dueRest("", 12, 0, 1, 2, 3, 4, 5, 6, 7, 8);
        // KIN 1 alone: it goes to the last column, whatever KIN 0 chooses
        dueRest("raft 2 1;at 2 0;mourner 6 1 1;", 1, 2, 5, 8);
        // for 10 an hour less 10 it may as well stay ashore; for less it stays
        dueRest("raft 2 1;at 2 0;mourner 6 5 1;mourner 6 5 1;stiff 11;", 1, 0, 2, 3, 5, 6, 8);
        dueRest("raft 2 1;at 2 0;mourner 6 6 1;mourner 6 5 1;stiff 11;", 1, 0, 3, 6);
        dueRest("raft 2 1;at 2 0;mourner 6 1 0;", 1, 3, 4, 5);
        // KIN 1 to the right, KIN 0 holds it, KIN 1 ashore, KIN 0 ashore, and so on: none rests
        dueRest("raft 2 1;grave 1 1;mourner 5 8 0;mourner 6 4 1;", 1);
        // both, as strong: each to its own side, or it is drawn away
        dueRest("raft 2 1;at 2 0;mourner 6 1 0;mourner 6 1 1;", 1, 5);
        // at the right shore KIN 1 has nothing to win but to hold it
        dueRest("raft 2 1;lake 2 2;mourner 6 1 0;mourner 6 1 1;", 1, 0);
        Document.says("term 3", "by changing alone; how many;");
        dueRest("raft 2 1;at 2 0;mourner 6 0 1;", 3, 2, 5, 8);
        Document.says("term 3", "the k-th.");
        GraveRegatta x = lake("raft 2 1;at 2 0;mourner 6 0 1;");
        Bench.due("the first", x.pull(0, 3, 0), 2);
        Bench.due("the last", x.pull(0, 3, 2), 8);
    }

    private static void pullRefused() {
        Document.says("promise 18", "PULL of n HOURS: how many REST (k NONE), or the k-th.");
        GraveRegatta x = Bench.told("lake:raft 2 1;at 2 0;mourner 6 0 1;", "lake:");
        Bench.due("of the first", x.pull(0, 1, NONE), 3);
        Bench.due("of the second", x.pull(1, 1, NONE), 9);
        Bench.due("12 hours", x.pull(1, 12, NONE), 9);
        Document.says("promise 18", "-2: there is none such (of any), or another n.");
        for (int wrong : new int[] {-2, 13, 14, MOST, LEAST}) {
            Bench.due("n " + wrong, x.pull(0, wrong, NONE), MISSING);
            Bench.due("k " + wrong, x.pull(0, 1, wrong), MISSING);
            Bench.due("LAKE " + wrong, x.pull(wrong, 1, NONE), MISSING);
        }
        Bench.due("n 0", x.pull(0, 0, NONE), MISSING);
        Bench.due("n -1", x.pull(0, -1, NONE), MISSING);
        Bench.due("k 3", x.pull(0, 1, 3), MISSING);
        Bench.due("LAKE -1", x.pull(-1, 1, NONE), MISSING);
        Bench.due("LAKE 2", x.pull(2, 1, NONE), MISSING);
    }
}
