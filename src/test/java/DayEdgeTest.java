/** Edges of days: term 2, what terms 5 and 6 say of a STATE, promises 8 to 13, each under its words. */
final class DayEdgeTest {
    private static final int NONE = GraveRegatta.NONE;
    private static final int MISSING = -2;
    private static final int NO_SUM = -1000000;
    private static final int LEAST = Integer.MIN_VALUE;
    private static final int MOST = Integer.MAX_VALUE;
    private static final String SUNK = "leak 0 9;float 8;";

    private DayEdgeTest() {
    }

    static void run() {
        lists();
        leans();
        sails();
        staying();
        drifting();
        goingAlongX();
        goingAlongY();
        rocks();
        leaking();
        sinking();
        touching();
        atFirst();
        boarding();
        winds();
        mooring();
        bailing();
        whenSunk();
        deedsThatCannotBe();
        sunkWithinHours();
        stops();
        states();
        listsAndDrifts();
        wakes();
        holds();
        turns();
        debts();
        debtsApart();
        mostDebts();
        refusals();
    }

    private static void says(String words) {
        Document.says("term 2", words);
    }

    private static GraveRegatta told(String lake, String day) {
        return Bench.told("lake:" + lake, "day:" + day);
    }

    private static String name(String lake, String day) {
        return "<" + lake + "> <" + day + "> ";
    }

    private static void dueState(String lake, String day, int n, int what, int want) {
        Bench.due(name(lake, day) + "state " + what + " behind " + n, told(lake, day).state(0, 0, n, what), want);
    }

    /** Behind all DEEDS the raft lies at x, y, and was aground so often. */
    private static void dueAt(String lake, String day, int x, int y, int aground) {
        GraveRegatta regatta = told(lake, day);
        int n = regatta.deed(0, NONE, 0);
        Bench.due(name(lake, day) + "X", regatta.state(0, 0, n, 0), x);
        Bench.due(name(lake, day) + "Y", regatta.state(0, 0, n, 1), y);
        Bench.due(name(lake, day) + "AGROUND", regatta.state(0, 0, n, 3), aground);
    }

    private static void dueLists(String lake, String day, int x, int y) {
        GraveRegatta regatta = told(lake, day);
        int n = regatta.deed(0, NONE, 0);
        Bench.due(name(lake, day) + "LIST of x", regatta.list(0, 0, n, 0), x);
        Bench.due(name(lake, day) + "LIST of y", regatta.list(0, 0, n, 1), y);
    }

    private static void dueDrifts(String lake, String day, int x, int y) {
        GraveRegatta regatta = told(lake, day);
        int n = regatta.deed(0, NONE, 0);
        Bench.due(name(lake, day) + "DRIFT of x", regatta.drift(0, 0, n, 0), x);
        Bench.due(name(lake, day) + "DRIFT of y", regatta.drift(0, 0, n, 1), y);
    }

    private static void dueStop(String lake, String day, int stop) {
        Bench.due(name(lake, day) + "STOP", told(lake, day).stop(0, 0), stop);
    }

    private static void lists() {
        says("LIST of x: of all WEIGHTS on the RAFT (GRAVES, MOURNERS, WATER) each times (twice its column, and 1, less LONG), "
                + "together; of y likewise by rows and BROAD.");
        dueLists("", "", 0, 0);
        dueLists("grave 2 30;", "", 60, -30);
        dueLists("grave 1 30;", "", 0, -30);
        dueLists("grave 3 7;grave 3 1;", "", -16, 8);
        dueLists("mourner 6 0 0;", "", 0, 0);
        dueLists("mourner 6 0 0;", "stand 0 3;", -12, 6);
        dueLists("mourner 6 0 0;mourner 5 0 0;", "stand 0 3;stand 1 3;", -22, 11);
        dueLists("mourner 6 0 0;", "stand 0 3;stand 0 2;", 12, -6);
        dueLists("mourner 6 0 0;", "stand 0 3;leave 0;", 0, 0);
        dueLists("leak 5 9;", "hours 1;", 18, 9);
        dueLists("leak 5 9;", "hours 1;bail 5;", 0, 0);
        dueLists("leak 5 9;mourner 6 0 0;grave 3 20;", "stand 0 0;hours 1;", 18 - 12 - 40, 9 - 6 + 20);
        dueLists("raft 1 1;grave 0 30;mourner 6 0 0;leak 0 9;", "stand 0 0;hours 1;", 0, 0);
        String people = "mourner 6 0 0;".repeat(5);
        String stand = "stand 0 15;stand 1 15;stand 2 15;stand 3 15;stand 4 15;";
        dueLists("raft 4 4;" + "grave 15 30;".repeat(12) + people, stand, 1170, 1170);
        dueLists("raft 4 4;" + "grave 0 30;".repeat(12) + people, stand.replace("15", "0"), -1170, -1170);
    }

    private static void leans() {
        says("LEAN of an axis: 0, if LIST is not above STIFF to either side (its size), else 1 or -1, as LIST is above or "
                + "below 0.");
        // two places on each side of a square, so that the other axis stays even
        int[][] sides = {{1, 3, 1, 0}, {0, 2, -1, 0}, {2, 3, 0, 1}, {0, 1, 0, -1}};
        for (int[] side : sides) {
            String even = "raft 2 2;stiff 6;grave " + side[0] + " 3;grave " + side[1] + " ";
            dueDrifts(even + "3;", "", 0, 0);
            dueDrifts(even.replace("stiff 6", "stiff 5") + "3;", "", side[2], side[3]);
            dueDrifts(even.replace("stiff 6", "stiff 7") + "3;", "", 0, 0);
        }
        dueDrifts("raft 2 1;stiff 0;", "", 0, 0);
        dueDrifts("raft 2 1;stiff 0;grave 1 1;", "", 1, 0);
        dueDrifts("raft 2 1;stiff 0;grave 0 1;", "", -1, 0);
        dueDrifts("raft 1 2;stiff 0;grave 1 1;", "", 0, 1);
        dueDrifts("raft 1 2;stiff 0;grave 0 1;", "", 0, -1);
        String heavy = "raft 2 1;stiff 99;grave 1 30;grave 1 30;grave 1 30;grave 1 ";
        dueDrifts(heavy + "9;", "", 0, 0);
        dueDrifts(heavy + "10;", "", 1, 0);
        dueDrifts(heavy.replace("grave 1", "grave 0") + "9;", "", 0, 0);
        dueDrifts(heavy.replace("grave 1", "grave 0") + "10;", "", -1, 0);
    }

    private static void sails() {
        says("SAIL: all SIZES together times FORCE.");
        dueDrifts("wreath 1;wreath 2;drag 12;", "wind 1 3;", 0, 0);
        dueDrifts("wreath 1;wreath 2;drag 12;", "wind 1 4;", 1, 0);
        dueDrifts("wreath 9;".repeat(6) + "drag 99;", "wind 1 1;", 0, 0);
        dueDrifts("wreath 9;".repeat(6) + "drag 99;", "wind 1 2;", 1, 0);
        says("BLOWN: 1 or -1 on the axis of the WIND's WAY (to the right, down: 1), if SAIL is DRAG or more;");
        int[][] ways = {{0, -1}, {1, 0}, {0, 1}, {-1, 0}};
        for (int way = 0; way < 4; way++) {
            // 14 * 7: 98
            dueDrifts("wreath 9;wreath 5;drag 98;", "wind " + way + " 7;", ways[way][0], ways[way][1]);
            dueDrifts("wreath 9;wreath 5;drag 97;", "wind " + way + " 7;", ways[way][0], ways[way][1]);
            dueDrifts("wreath 9;wreath 5;drag 99;", "wind " + way + " 7;", 0, 0);
        }
        dueDrifts("wreath 1;drag 1;", "wind 2 1;", 0, 1);
        dueDrifts("wreath 9;wreath 2;drag 99;", "wind 2 9;", 0, 1);
        says("else 0.");
        dueDrifts("drag 1;", "wind 1 9;", 0, 0);
        dueDrifts("wreath 1;drag 2;", "wind 1 1;", 0, 0);
        dueDrifts("wreath 9;drag 1;", "", 0, 0);
        dueDrifts("wreath 9;drag 1;", "wind 1 9;calm;", 0, 0);
    }

    private static void staying() {
        says("An HOUR: in FROST, or if it is MOORED, or SUNK, it stays.");
        dueAt("at 2 0;wreath 9;", "wind 1 9;hours 2;", 4, 0, 0);
        dueAt("at 2 0;wreath 9;", "wind 1 9;frost;hours 2;", 2, 0, 0);
        dueAt("at 2 0;wreath 9;", "wind 1 9;frost;hours 2;thaw;hours 1;", 3, 0, 0);
        dueAt("at 2 0;wreath 9;", "wind 1 9;moor;hours 2;", 2, 0, 0);
        dueAt("at 2 0;wreath 9;", "wind 1 9;moor;hours 2;cast;hours 1;", 3, 0, 0);
        dueAt("at 2 0;wreath 9;", "wind 1 9;moor;frost;hours 1;thaw;hours 1;frost;cast;hours 1;", 2, 0, 0);
        // at the shore: it is not even aground
        dueAt("at 5 0;wreath 9;", "wind 1 9;hours 2;", 5, 0, 2);
        dueAt("at 5 0;wreath 9;", "wind 1 9;frost;hours 2;", 5, 0, 0);
        dueAt("at 5 0;wreath 9;", "wind 1 9;moor;hours 2;", 5, 0, 0);
        // it leans: 12 to the right, 6 down
        dueAt("at 2 2;grave 5 6;", "frost;hours 9;", 2, 2, 0);
        // sunk behind the third hour
        dueAt("raft 1 1;wreath 9;leak 0 1;float 2;", "wind 1 9;hours 9;", 3, 0, 0);
        dueAt("raft 1 1;lake 4 4;wreath 9;leak 0 1;float 4;", "wind 1 9;hours 9;", 3, 0, 2);
    }

    private static void drifting() {
        says("Else DRIFT of each axis: LEAN and BLOWN together, its sign.");
        String leaning = "raft 2 1;stiff 0;at 3 3;wreath 9;grave 1 1;";
        dueDrifts(leaning, "", 1, 0);
        dueDrifts(leaning, "wind 1 9;", 1, 0);
        dueDrifts(leaning, "wind 3 9;", 0, 0);
        dueDrifts(leaning, "wind 0 9;", 1, -1);
        dueDrifts(leaning, "wind 2 9;", 1, 1);
        String left = leaning.replace("grave 1", "grave 0");
        dueDrifts(left, "", -1, 0);
        dueDrifts(left, "wind 3 9;", -1, 0);
        dueDrifts(left, "wind 1 9;", 0, 0);
        // one cell, and no more, when both are the same way
        dueAt(leaning, "wind 1 9;hours 1;", 4, 3, 0);
        dueAt(left, "wind 3 9;hours 1;", 2, 3, 0);
        dueAt(leaning, "wind 3 9;hours 9;", 3, 3, 0);
    }

    private static void goingAlongX() {
        says("First along x: the RAFT goes one CELL, if it is all in the LAKE then and on no ROCK, else it is AGROUND (once "
                + "more);");
        String lake = "lake 9 7;wreath 9;";
        dueAt(lake + "at 5 3;", "wind 1 1;hours 1;", 6, 3, 0);
        dueAt(lake + "at 6 3;", "wind 1 1;hours 1;", 6, 3, 1);
        dueAt(lake + "at 6 3;", "wind 1 1;hours 3;", 6, 3, 3);
        dueAt(lake + "at 5 3;", "wind 1 1;hours 3;", 6, 3, 2);
        dueAt(lake + "at 1 3;", "wind 3 1;hours 1;", 0, 3, 0);
        dueAt(lake + "at 0 3;", "wind 3 1;hours 1;", 0, 3, 1);
        dueAt(lake + "at 0 3;", "wind 3 1;hours 2;wind 1 1;hours 1;wind 3 1;hours 2;", 0, 3, 3);
    }

    private static void goingAlongY() {
        says("then likewise along y.");
        String lake = "lake 9 7;wreath 9;";
        dueAt(lake + "at 3 4;", "wind 2 1;hours 1;", 3, 5, 0);
        dueAt(lake + "at 3 5;", "wind 2 1;hours 1;", 3, 5, 1);
        dueAt(lake + "at 3 1;", "wind 0 1;hours 1;", 3, 0, 0);
        dueAt(lake + "at 3 0;", "wind 0 1;hours 2;", 3, 0, 2);
        // to the right and down: the corner, the shores, the rocks
        String askew = "raft 2 2;stiff 0;grave 3 1;lake 6 6;";
        dueAt(askew + "at 2 2;", "hours 1;", 3, 3, 0);
        dueAt(askew + "at 4 4;", "hours 1;", 4, 4, 2);
        dueAt(askew + "at 4 2;", "hours 1;", 4, 3, 1);
        dueAt(askew + "at 2 4;", "hours 1;", 3, 4, 1);
        dueAt(askew + "at 2 2;rock 4 2;", "hours 1;", 2, 3, 1);
        dueAt(askew + "at 2 2;rock 4 3;", "hours 1;", 2, 3, 1);
        dueAt(askew + "at 2 2;rock 4 4;", "hours 1;", 3, 2, 1);
        dueAt(askew + "at 2 2;rock 3 4;", "hours 1;", 3, 2, 1);
        // x is gone first: what is below the place that it leaves does not count
        dueAt(askew + "at 2 2;rock 2 4;", "hours 1;", 3, 3, 0);
        dueAt(askew + "at 2 2;rock 4 2;rock 2 4;", "hours 1;", 2, 2, 2);
        dueAt(askew + "at 2 2;rock 4 2;rock 4 4;", "hours 1;", 2, 3, 1);
    }

    private static void rocks() {
        says("if it is all in the LAKE then and on no ROCK, else it is AGROUND");
        int[][] ways = {{0, -1}, {1, 0}, {0, 1}, {-1, 0}};
        for (int way = 0; way < 4; way++) {
            for (int x = 1; x <= 6; x++) {
                for (int y = 1; y <= 6; y++) {
                    boolean isUnder = x >= 3 && x <= 4 && y >= 3 && y <= 4;
                    int nextX = 3 + ways[way][0];
                    int nextY = 3 + ways[way][1];
                    boolean isInTheWay = x >= nextX && x <= nextX + 1 && y >= nextY && y <= nextY + 1;
                    if (!isUnder) {
                        dueAt("raft 2 2;at 3 3;wreath 9;rock " + x + " " + y + ";", "wind " + way + " 1;hours 1;",
                                isInTheWay ? 3 : nextX, isInTheWay ? 3 : nextY, isInTheWay ? 1 : 0);
                    }
                }
            }
        }
        // the last of twenty rocks counts, too
        dueAt("raft 2 2;at 3 3;wreath 9;" + "rock 7 7;".repeat(19) + "rock 5 4;", "wind 1 1;hours 1;", 3, 3, 1);
        dueAt("raft 2 2;lake 12 12;at 9 10;wreath 9;rock 11 11;", "wind 1 1;hours 1;", 9, 10, 1);
        // of several rocks in one row of cells, or in one column, each is in the way
        for (String rocks : new String[] {"rock 5 4;rock 0 4;", "rock 0 4;rock 5 4;", "rock 5 4;rock 5 0;", "rock 5 4;rock 5 4;"}) {
            dueAt("raft 2 2;at 3 3;wreath 9;" + rocks, "wind 1 1;hours 1;", 3, 3, 1);
        }
    }

    private static void leaking() {
        says("Behind that (always, but SUNK) each LEAK lets in WATER of its RATE on its PLACE;");
        String leaks = "leak 5 9;leak 0 1;leak 5 2;leak 3 4;";
        int[] want = {1, 0, 0, 4, 0, 11};
        for (int place = 0; place < 6; place++) {
            dueState(leaks, "hours 1;", 1, 30 + place, want[place]);
            dueState(leaks, "frost;hours 1;", 2, 30 + place, want[place]);
            dueState(leaks, "moor;hours 1;", 2, 30 + place, want[place]);
            dueState(leaks, "hours 2;", 1, 30 + place, 2 * want[place]);
            dueState(leaks, "wind 1 1;", 1, 30 + place, 0);
        }
        dueState(leaks, "hours 2;", 1, 5, 32);
        dueState("", "hours 9;", 1, 5, 0);
        // behind the drift: the hour's own water does not move it yet
        dueAt("raft 2 1;at 2 2;stiff 0;leak 1 1;", "hours 1;", 2, 2, 0);
        dueAt("raft 2 1;at 2 2;stiff 0;leak 1 1;", "hours 2;", 3, 2, 0);
        // but when it is sunk
        dueState(SUNK, "hours 9;", 1, 5, 9);
        dueState(SUNK + "leak 1 9;", "hours 9;", 1, 5, 18);
    }

    private static void sinking() {
        says("if all WATER together is above FLOAT, it is SUNK.");
        dueState("leak 0 4;leak 5 4;float 8;", "hours 1;", 1, 6, 0);
        dueState("leak 0 4;leak 5 4;float 7;", "hours 1;", 1, 6, 1);
        dueState("leak 0 4;leak 5 4;float 8;", "hours 2;", 1, 6, 1);
        dueState("leak 0 1;float 1;", "hours 1;", 1, 6, 0);
        dueState("leak 0 1;float 1;", "hours 1;hours 1;", 2, 6, 1);
        dueState("leak 0 9;float 99;", "hours 9;hours 2;", 2, 6, 0);
        dueState("leak 0 9;float 99;", "hours 9;hours 3;", 2, 6, 1);
        dueState("leak 0 9;float 98;", "hours 9;hours 2;", 2, 6, 1);
        // bailed in time; no weight but water sinks it
        dueState("leak 0 4;leak 5 4;float 8;", "hours 1;bail 0;bail 5;hours 1;", 4, 6, 0);
        dueState("leak 0 4;leak 5 4;float 8;", "hours 1;bail 0;hours 1;", 3, 6, 1);
        dueState("grave 0 30;grave 1 30;mourner 6 0 0;float 1;", "stand 0 0;hours 9;", 2, 6, 0);
        dueState("leak 0 9;float 1;", "", 0, 6, 0);
    }

    private static void touching() {
        says("TOUCHED: SIDES at which the RAFT lies or lay behind any HOUR, or at first (its CELLS being the last ones to that "
                + "SIDE).");
        String lake = "raft 2 2;lake 6 6;wreath 9;at ";
        for (int x = 0; x <= 4; x++) {
            for (int y = 0; y <= 4; y++) {
                int sides = (y == 0 ? 1 : 0) + (x == 4 ? 2 : 0) + (y == 4 ? 4 : 0) + (x == 0 ? 8 : 0);
                dueState(lake + x + " " + y + ";", "", 0, 4, sides);
            }
        }
        dueState("raft 4 3;lake 4 3;", "", 0, 4, 15);
        dueState("raft 4 3;lake 5 3;", "", 0, 4, 13);
        dueState(lake + "0 2;", "wind 1 1;hours 2;", 2, 4, 8);
        dueState(lake + "1 2;", "wind 3 1;", 1, 4, 0);
        dueState(lake + "1 2;", "wind 3 1;hours 1;", 2, 4, 8);
        dueState(lake + "2 2;", "wind 3 1;hours 1;", 2, 4, 0);
        dueState(lake + "1 2;", "wind 3 1;hours 1;wind 1 1;hours 4;wind 0 1;hours 1;", 6, 4, 10);
        // it lay there within one DEED: two hours to the right, one still, two to the left
        String tilting = "raft 2 1;lake 6 6;at 2 2;stiff 0;grave 1 2;leak 0 1;";
        dueState(tilting, "hours 5;", 1, 0, 2);
        dueState(tilting, "hours 5;", 1, 4, 2);
        dueState(tilting, "hours 1;", 1, 4, 0);
    }

    private static void atFirst() {
        says("A DAY: at first all MOURNERS are ashore, it is calm, no FROST, no WATER.");
        GraveRegatta x = told("at 2 3;raft 4 4;mourner 1 0 0;mourner 1 0 0;mourner 1 0 0;mourner 1 0 0;mourner 1 0 0;leak 0 9;",
                "stand 4 15;");
        int[] want = {2, 3, 0, 0, 0, 0, 0, 0, 0, NONE, 0};
        for (int what = 0; what <= 10; what++) {
            Bench.due("state " + what, x.state(0, 0, 0, what), want[what]);
        }
        for (int mourner = 0; mourner < 5; mourner++) {
            Bench.due("MOURNER " + mourner, x.state(0, 0, 0, 20 + mourner), NONE);
        }
        for (int place = 0; place < 16; place++) {
            Bench.due("WATER on " + place, x.state(0, 0, 0, 30 + place), 0);
        }
        // nothing of another state is left: asked behind it
        x = told("mourner 6 0 0;leak 0 9;wreath 9;", "stand 0 5;wind 1 9;moor;frost;hours 9;");
        Bench.due("sunk behind all", x.state(0, 0, 5, 6), 1);
        int[] again = {0, 0, 0, 0, 9, 0, 0, 0, 0, NONE, 0};
        for (int what = 0; what <= 10; what++) {
            Bench.due("again " + what, x.state(0, 0, 0, what), again[what]);
        }
        Bench.due("ashore again", x.state(0, 0, 0, 20), NONE);
        Bench.due("dry again", x.state(0, 0, 0, 30), 0);
    }

    private static void boarding() {
        says("stand: a MOURNER, wherever he is, stands on a PLACE.");
        String people = "raft 4 4;" + "mourner 1 0 0;".repeat(5);
        dueState(people, "stand 4 15;", 1, 24, 15);
        dueState(people, "stand 4 15;", 1, 23, NONE);
        dueState(people, "stand 0 0;", 1, 20, 0);
        dueState(people, "stand 4 15;stand 4 14;", 2, 24, 14);
        dueState(people, "stand 4 15;stand 3 15;", 2, 24, 15);
        dueState(people, "stand 4 15;stand 3 15;", 2, 23, 15);
        dueState(people, "stand 4 15;leave 4;stand 4 15;", 3, 24, 15);
        says("leave: who is aboard is ashore.");
        dueState(people, "stand 4 15;leave 4;", 2, 24, NONE);
        dueState(people, "stand 0 0;stand 4 15;leave 0;", 3, 24, 15);
        dueStop(people, "stand 0 0;leave 0;leave 0;", 2);
    }

    private static void winds() {
        says("wind: from then on; calm: no more.");
        GraveRegatta x = told("wreath 9;at 2 2;", "wind 0 1;wind 3 9;hours 1;frost;thaw;hours 1;calm;hours 1;wind 2 5;calm;");
        int[][] want = {{NONE, 0}, {0, 1}, {3, 9}, {3, 9}, {3, 9}, {3, 9}, {3, 9}, {NONE, 0}, {NONE, 0}, {2, 5}, {NONE, 0}};
        for (int n = 0; n <= 10; n++) {
            Bench.due("WAY behind " + n, x.state(0, 0, n, 9), want[n][0]);
            Bench.due("FORCE behind " + n, x.state(0, 0, n, 10), want[n][1]);
        }
        Bench.due("it blows from then on", x.state(0, 0, 6, 0), 0);
        Bench.due("and no more", x.state(0, 0, 8, 3), 0);
        says("frost, thaw: FROST, no more.");
        Bench.due("before", x.state(0, 0, 3, 7), 0);
        Bench.due("FROST", x.state(0, 0, 4, 7), 1);
        Bench.due("no more", x.state(0, 0, 5, 7), 0);
        says("hours: so many.");
        for (int hours : new int[] {1, 2, 8, 9}) {
            dueState("", "hours " + hours + ";", 1, 2, hours);
            dueState("", "frost;hours " + hours + ";hours 9;", 3, 2, hours + 9);
            dueState("lake 12 12;raft 1 1;wreath 9;", "wind 1 1;hours " + hours + ";", 2, 0, hours);
        }
        dueState("", "hours 9;" + "calm;", 1, 2, 9);
    }

    private static void mooring() {
        says("moor: if it lies at a SIDE and is not MOORED; cast: if MOORED.");
        String lake = "raft 2 2;lake 6 6;wreath 9;at ";
        for (int x = 0; x <= 4; x++) {
            for (int y = 0; y <= 4; y++) {
                boolean isAtSide = x == 0 || x == 4 || y == 0 || y == 4;
                dueStop(lake + x + " " + y + ";", "moor;", isAtSide ? 1 : 0);
            }
        }
        dueState(lake + "0 2;", "moor;", 1, 8, 1);
        dueState(lake + "0 2;", "moor;cast;", 2, 8, 0);
        dueState(lake + "0 2;", "moor;cast;moor;", 3, 8, 1);
        dueStop(lake + "0 2;", "moor;moor;", 1);
        dueStop(lake + "0 2;", "cast;", 0);
        dueStop(lake + "0 2;", "moor;cast;cast;", 2);
        // that it touched a side before is not enough
        dueStop(lake + "0 2;", "wind 1 1;hours 1;moor;", 2);
        dueStop(lake + "0 2;", "wind 1 1;hours 4;moor;", 3);
        dueStop(lake + "0 2;", "frost;moor;thaw;cast;", 4);
        says("moor, cast: as told.");
        dueStop(lake + "2 2;", "cast;", 0);
        dueStop(lake + "1 1;", "moor;", 0);
        dueStop(lake + "3 3;", "moor;", 0);
    }

    private static void bailing() {
        says("bail: a PLACE has no WATER any more.");
        String lake = "leak 0 3;leak 5 2;leak 5 2;";
        GraveRegatta x = told(lake, "hours 2;bail 5;hours 1;bail 0;");
        int[][] want = {{0, 0, 0}, {6, 8, 14}, {6, 0, 6}, {9, 4, 13}, {0, 4, 4}};
        for (int n = 0; n <= 4; n++) {
            Bench.due("on 0 behind " + n, x.state(0, 0, n, 30), want[n][0]);
            Bench.due("on 5 behind " + n, x.state(0, 0, n, 35), want[n][1]);
            Bench.due("all behind " + n, x.state(0, 0, n, 5), want[n][2]);
        }
        says("bail: no WATER there;");
        dueStop(lake, "bail 0;", 0);
        dueStop(lake, "hours 1;bail 1;", 1);
        dueStop(lake, "hours 1;bail 0;bail 0;", 2);
        dueStop(lake, "hours 1;bail 0;bail 5;", 3);
        dueStop(lake, "hours 1;bail 0;hours 1;bail 0;", 4);
    }

    private static void whenSunk() {
        says("A DEED can't be, if it is SUNK;");
        String lake = SUNK + "mourner 1 0 0;mourner 1 0 0;at 0 0;";
        // what the first three do would let each of the last ones be
        String before = "stand 0 0;wind 1 1;hours 1;";
        String[] deeds = {"stand 0 1;", "stand 1 0;", "leave 0;", "wind 1 2;", "calm;", "frost;", "moor;", "bail 0;", "hours 1;"};
        for (String deed : deeds) {
            dueStop(lake, before + deed, 3);
            dueStop(lake + "float 9;", before + deed, 4);
        }
        dueStop(lake, "frost;hours 1;thaw;", 2);
        dueStop(lake + "float 9;", "frost;hours 1;thaw;", 3);
        dueStop(lake, "moor;hours 1;cast;", 2);
        dueStop(lake + "float 9;", "moor;hours 1;cast;", 3);
    }

    private static void deedsThatCannotBe() {
        says("there is no such MOURNER, PLACE;");
        dueStop("", "stand 0 0;", 0);
        dueStop("mourner 1 0 0;", "stand 0 5;", 1);
        dueStop("mourner 1 0 0;", "stand 1 5;", 0);
        dueStop("mourner 1 0 0;", "stand 0 6;", 0);
        dueStop("mourner 1 0 0;raft 4 4;", "stand 0 15;", 1);
        dueStop("mourner 1 0 0;raft 1 1;", "stand 0 0;", 1);
        dueStop("mourner 1 0 0;raft 1 1;", "stand 0 1;", 0);
        dueStop("mourner 1 0 0;".repeat(5), "stand 4 0;leave 4;", 2);
        dueStop("mourner 1 0 0;".repeat(4), "stand 4 0;", 0);
        dueStop("mourner 1 0 0;", "stand 0 0;leave 1;", 1);
        dueStop("leak 5 1;", "hours 1;bail 5;", 2);
        dueStop("leak 5 1;", "hours 1;bail 6;", 1);
        dueStop("leak 5 1;", "hours 1;bail 15;", 1);
        says("stand: he is there already;");
        dueStop("mourner 1 0 0;", "stand 0 0;stand 0 0;", 1);
        dueStop("mourner 1 0 0;", "stand 0 0;stand 0 1;stand 0 0;", 3);
        dueStop("mourner 1 0 0;mourner 1 0 0;", "stand 0 0;stand 1 0;", 2);
        says("leave: he is ashore;");
        dueStop("mourner 1 0 0;", "leave 0;", 0);
        dueStop("mourner 1 0 0;mourner 1 0 0;", "stand 0 0;leave 1;", 1);
        dueStop("mourner 1 0 0;", "stand 0 0;leave 0;leave 0;", 2);
        says("frost: there is FROST;");
        dueStop("", "frost;", 1);
        dueStop("", "frost;frost;", 1);
        dueStop("", "frost;thaw;frost;", 3);
        says("thaw: none;");
        dueStop("", "thaw;", 0);
        dueStop("", "frost;thaw;thaw;", 2);
        says("calm: no WIND;");
        dueStop("", "calm;", 0);
        dueStop("", "wind 0 1;calm;calm;", 2);
        dueStop("", "wind 0 1;wind 0 1;calm;", 3);
    }

    private static void sunkWithinHours() {
        says("(SUNK within hours: the others of that DEED are not any more, and do not count.)");
        String lake = "raft 1 1;wreath 9;lake 12 12;leak 0 2;float 5;";
        GraveRegatta x = told(lake, "wind 1 1;hours 9;hours 1;");
        Bench.due("HOURS", x.state(0, 0, 2, 2), 3);
        Bench.due("X", x.state(0, 0, 2, 0), 3);
        Bench.due("WATER", x.state(0, 0, 2, 5), 6);
        Bench.due("SUNK", x.state(0, 0, 2, 6), 1);
        Bench.due("the DEED itself can be", x.stop(0, 0), 2);
        x = told(lake + "at 11 0;", "wind 1 1;hours 9;");
        Bench.due("AGROUND", x.state(0, 0, 2, 3), 3);
        // sunk by its last hour
        x = told(lake, "hours 3;calm;");
        Bench.due("HOURS", x.state(0, 0, 1, 2), 3);
        Bench.due("SUNK by the last", x.state(0, 0, 1, 6), 1);
    }

    private static void stops() {
        says("STOP: the first DEED that can't be, else how many there are.");
        dueStop("", "", 0);
        dueStop("", "calm;", 0);
        dueStop("", "hours 1;", 1);
        dueStop("", "moor;cast;".repeat(20), 40);
        dueStop("", "moor;cast;".repeat(19) + "moor;moor;", 39);
        // those behind it that could be do not count
        dueStop("", "hours 1;calm;hours 1;hours 1;", 1);
        dueStop("", "calm;wind 1 1;calm;", 0);
        Document.says("promise 8", "STOP.");
        GraveRegatta x = Bench.told("lake:mourner 1 0 0;", "lake:", "day:stand 0 0;", "day:wind 1 1;calm;");
        Bench.due("of the first lake, the first day", x.stop(0, 0), 1);
        Bench.due("of the second lake, the first day", x.stop(1, 0), 0);
        Bench.due("of the first lake, the second day", x.stop(0, 1), 2);
        Bench.due("of both second ones", x.stop(1, 1), 2);
        Document.says("promise 8", "NONE: there is none such (of either).");
        for (int wrong : new int[] {-1, -2, 2, 3, MOST, LEAST}) {
            Bench.due("no such LAKE", x.stop(wrong, 0), NONE);
            Bench.due("no such DAY", x.stop(0, wrong), NONE);
            Bench.due("neither", x.stop(wrong, wrong), NONE);
        }
        Bench.due("no LAKE at all", Bench.told("day:").stop(0, 0), NONE);
        Bench.due("no DAY at all", Bench.told("lake:").stop(0, 0), NONE);
        Bench.due("no second LAKE", Bench.told("lake:", "day:").stop(1, 0), NONE);
        Bench.due("no second DAY", Bench.told("lake:", "day:").stop(0, 1), NONE);
    }

    private static void states() {
        says("A STATE is behind the first n DEEDS, n up to STOP.");
        GraveRegatta x = told("", "hours 1;hours 2;calm;hours 3;");
        int[] want = {0, 1, 3, MISSING, MISSING, MISSING};
        for (int n = 0; n <= 5; n++) {
            Bench.due("HOURS behind " + n, x.state(0, 0, n, 2), want[n]);
        }
        Bench.due("below 0", x.state(0, 0, -1, 2), MISSING);
        x = told("", "hours 1;hours 2;");
        Bench.due("behind all", x.state(0, 0, 2, 2), 3);
        Bench.due("beyond all", x.state(0, 0, 3, 2), MISSING);
        x = told("", "");
        Bench.due("of a day without DEEDS", x.state(0, 0, 0, 2), 0);
        Bench.due("beyond", x.state(0, 0, 1, 2), MISSING);
        Document.says("promise 9", "Of a STATE, what 0: X, 1: Y, 2: HOURS so far, 3: how often AGROUND, 4: TOUCHED (bits), 5: all "
                + "WATER, 6: 1 if SUNK, 7: 1 in FROST, 8: 1 if MOORED (0 each), 9: the WIND's WAY (NONE), 10: FORCE (0), 20 + m: "
                + "where MOURNER m stands (NONE: ashore), 30 + p: WATER on a PLACE.");
        x = told("stiff 99;at 5 2;wreath 9;leak 4 7;mourner 1 0 0;mourner 2 0 0;", "wind 1 3;stand 1 4;hours 2;moor;frost;");
        int[] states = {5, 2, 2, 2, 2, 14, 0, 1, 1, 1, 3};
        Document.says("promise 9", "-2: there is no such STATE, or for another what.");
        for (int what = -1; what <= 60; what++) {
            int due = what >= 0 && what <= 10 ? states[what] : MISSING;
            due = what == 20 ? NONE : what == 21 ? 4 : due;
            due = what >= 30 && what <= 35 ? what == 34 ? 14 : 0 : due;
            Bench.due("state " + what, x.state(0, 0, 5, what), due);
        }
        Bench.due("another what", x.state(0, 0, 5, MOST), MISSING);
        Bench.due("another what", x.state(0, 0, 5, LEAST), MISSING);
    }

    private static void listsAndDrifts() {
        Document.says("promise 10", "LIST of an axis (0 x, 1 y) in a STATE.");
        GraveRegatta x = told("grave 5 30;leak 0 1;", "hours 9;");
        Bench.due("x at first", x.list(0, 0, 0, 0), 60);
        Bench.due("y at first", x.list(0, 0, 0, 1), 30);
        Bench.due("x behind all", x.list(0, 0, 1, 0), 42);
        Bench.due("y behind all", x.list(0, 0, 1, 1), 21);
        Document.says("promise 11", "DRIFT of an axis (0 x, 1 y) in the next HOUR of a STATE, FROST, moorings aside: -1, 0, 1.");
        dueDrifts("grave 5 30;", "frost;", 1, 1);
        dueDrifts("grave 5 30;", "moor;", 1, 1);
        dueDrifts("grave 0 30;", "moor;frost;", -1, -1);
        dueDrifts("", "moor;frost;", 0, 0);
        dueDrifts("wreath 9;", "wind 0 9;moor;frost;", 0, -1);
        // a shore or a rock in the way is no matter
        dueDrifts("at 5 6;grave 5 30;rock 4 6;", "", 1, 1);
    }

    private static void wakes() {
        Document.says("term 6", "WAKE of a STATE: how many HOURS more, nothing being done, till it is AGROUND next (1: by the next "
                + "one);");
        String lake = "raft 1 1;lake 12 2;wreath 9;at ";
        for (int x : new int[] {11, 10, 0}) {
            Bench.due("from x " + x, told(lake + x + " 0;", "wind 1 9;").goes(0, 0, 1, 0), 12 - x);
        }
        Bench.due("aground before", told(lake + "11 0;", "wind 1 9;hours 3;").goes(0, 0, 2, 0), 1);
        Bench.due("by x, the other way", told(lake + "2 0;", "wind 3 9;").goes(0, 0, 1, 0), 3);
        Bench.due("by y", told(lake + "2 0;", "wind 2 9;").goes(0, 0, 1, 0), 2);
        Bench.due("by a rock", told(lake + "2 0;rock 5 0;", "wind 1 9;").goes(0, 0, 1, 0), 3);
        // by the hour in which it sinks, too; then no more
        Bench.due("and sunk by the same", told(lake + "10 0;leak 0 4;float 7;", "wind 1 9;").goes(0, 0, 1, 0), 2);
        Bench.due("sunk before", told(lake + "9 0;leak 0 4;float 7;", "wind 1 9;").goes(0, 0, 1, 0), NONE);
        Document.says("promise 12", "WAKE (NONE: not in 60 HOURS),");
        String slow = "raft 2 1;leak 0 1;float 99;stiff ";
        Bench.due("in 59", told(slow + "57;", "").goes(0, 0, 0, 0), 59);
        Bench.due("in 60", told(slow + "58;", "").goes(0, 0, 0, 0), 60);
        Bench.due("not in 60", told(slow + "59;", "").goes(0, 0, 0, 0), NONE);
        Bench.due("an hour on", told(slow + "59;", "hours 1;").goes(0, 0, 1, 0), 60);
        Bench.due("calm", told(lake + "0 0;", "").goes(0, 0, 0, 0), NONE);
        Bench.due("FROST", told(lake + "11 0;", "wind 1 9;frost;").goes(0, 0, 2, 0), NONE);
        Bench.due("MOORED", told(lake + "11 0;", "wind 1 9;moor;").goes(0, 0, 2, 0), NONE);
        Bench.due("SUNK", told(lake + "11 0;" + SUNK, "wind 1 9;hours 1;").goes(0, 0, 2, 0), NONE);
        // the state itself stays as it is
        GraveRegatta x = told(lake + "9 0;leak 0 1;", "wind 1 9;");
        x.goes(0, 0, 1, 0);
        Bench.due("X", x.state(0, 0, 1, 0), 9);
        Bench.due("WATER", x.state(0, 0, 1, 5), 0);
    }

    private static void holds() {
        Document.says("term 6", "HOLD of a STATE: how many HOURS more till it is SUNK.");
        Bench.due("by the next", told("leak 0 9;float 8;", "").goes(0, 0, 0, 1), 1);
        Bench.due("by the one behind", told("leak 0 9;float 9;", "").goes(0, 0, 0, 1), 2);
        Bench.due("all leaks", told("leak 0 1;leak 5 1;leak 5 1;leak 3 1;float 11;", "").goes(0, 0, 0, 1), 3);
        Bench.due("FROST", told("leak 0 9;float 9;", "frost;").goes(0, 0, 1, 1), 2);
        Bench.due("MOORED", told("leak 0 9;float 9;", "moor;").goes(0, 0, 1, 1), 2);
        Bench.due("bailed", told("leak 0 9;float 9;", "hours 1;bail 0;").goes(0, 0, 2, 1), 2);
        Bench.due("not bailed", told("leak 0 9;float 9;", "hours 1;bail 0;").goes(0, 0, 1, 1), 1);
        Document.says("promise 12", "1: HOLD (NONE: not in 60; 0: SUNK),");
        Bench.due("in 59", told("leak 0 1;float 58;", "").goes(0, 0, 0, 1), 59);
        Bench.due("in 60", told("leak 0 1;float 59;", "").goes(0, 0, 0, 1), 60);
        Bench.due("not in 60", told("leak 0 1;float 60;", "").goes(0, 0, 0, 1), NONE);
        Bench.due("no leaks", told("float 1;", "").goes(0, 0, 0, 1), NONE);
        Bench.due("SUNK", told(SUNK, "hours 1;").goes(0, 0, 1, 1), 0);
        Bench.due("SUNK within hours", told(SUNK, "hours 9;").goes(0, 0, 1, 1), 0);
    }

    private static void dueTurn(String lake, String day, int way, int want) {
        GraveRegatta x = told(lake, day);
        Bench.due(name(lake, day) + "TURN of " + way, x.goes(0, 0, x.deed(0, NONE, 0), 10 + way), want);
    }

    private static void turns() {
        Document.says("term 6", "TURN: the least FORCE, 1 .. 9, of a WIND of a WAY by which next HOUR's DRIFT of that axis is its "
                + "own way.");
        int[] leaning = {1, 2, 3, 0};
        for (int way = 0; way < 4; way++) {
            dueTurn("wreath 2;drag 2;", "", way, 1);
            dueTurn("wreath 2;drag 3;", "", way, 2);
            dueTurn("wreath 2;drag 18;", "", way, 9);
            dueTurn("wreath 2;drag 17;", "", way, 9);
            dueTurn("wreath 2;drag 16;", "", way, 8);
            // a wind that blows is no more, if another one does
            dueTurn("wreath 2;drag 5;", "wind " + way + " 9;", way, 3);
            dueTurn("wreath 2;drag 5;", "wind " + (way + 2) % 4 + " 9;", way, 3);
            // it leans that way by itself: any wind does; against its lean none does; askew to it is no matter
            int side = leaning[way];
            String weights = side == 0 ? "grave 0 9;" : side == 1 ? "grave 1 9;" : side == 2 ? "grave 1 9;" : "grave 0 9;";
            String raft = (side == 1 || side == 3 ? "raft 2 1;" : "raft 1 2;") + weights;
            dueTurn("wreath 2;drag 99;" + raft, "", side, 1);
            dueTurn("wreath 9;drag 1;" + raft, "", (side + 2) % 4, NONE);
            dueTurn("wreath 2;drag 5;" + raft, "", (side + 1) % 4, 3);
        }
        Document.says("promise 12", "10 + w: TURN of a WAY (NONE: by none).");
        for (int way = 0; way < 4; way++) {
            dueTurn("", "", way, NONE);
            dueTurn("wreath 2;drag 19;", "", way, NONE);
            dueTurn("wreath 2;drag 5;", "frost;", way, 3);
            dueTurn("wreath 2;drag 5;", "moor;", way, 3);
        }
    }

    private static void dueDebt(String lake, String day, String law, int want) {
        GraveRegatta x = Bench.told("lake:" + lake, "day:" + day, "law:" + law);
        Bench.due(name(lake, day) + "<" + law + ">", x.owed(0, 0, x.deed(0, NONE, 0), 0), want);
    }

    private static void debts() {
        Document.says("term 5", "OWED in a STATE by a LAW: TERM by TERM, all together: grave: for each WEIGHT of all GRAVES;");
        dueDebt("", "", "", 0);
        dueDebt("", "", "grave 9;", 0);
        dueDebt("grave 0 30;grave 5 1;", "", "grave 9;", 279);
        dueDebt("grave 0 30;grave 5 1;", "", "grave 0;", 0);
        dueDebt("grave 0 30;mourner 6 0 0;leak 0 9;", "stand 0 0;hours 1;", "grave 1;", 30);
        dueDebt("grave 0 30;", "", "grave 1;grave 2;", 90);
        Document.says("term 5", "list: so much, if the sizes of both LISTS together are above the number;");
        dueDebt("", "", "list 0 99;", 0);
        dueDebt("raft 2 1;grave 1 1;", "", "list 0 99;", 99);
        dueDebt("grave 0 7;", "", "list 21 99;", 0);
        dueDebt("grave 0 7;", "", "list 20 99;", 99);
        dueDebt("grave 5 7;", "", "list 21 99;", 0);
        dueDebt("grave 5 7;", "", "list 20 99;", 99);
        dueDebt("grave 2 7;", "", "list 20 99;list 20 1;list 22 50;", 100);
        dueDebt("raft 4 4;" + "grave 15 30;".repeat(6), "", "list 999 99;", 99);
        Document.says("term 5", "touch: if that SIDE is TOUCHED;");
        String[] at = {"at 3 0;", "at 5 3;", "at 3 6;", "at 0 3;"};
        for (int side = 0; side < 4; side++) {
            for (int touched = 0; touched < 4; touched++) {
                dueDebt(at[touched], "", "touch " + side + " 99;", side == touched ? 99 : 0);
            }
        }
        dueDebt("at 1 3;wreath 9;", "wind 3 9;hours 1;wind 1 9;hours 1;", "touch 3 7;", 7);
        Document.says("term 5", "water: for all WATER;");
        dueDebt("leak 0 9;leak 5 1;", "", "water 9;", 0);
        dueDebt("leak 0 9;leak 5 1;", "hours 2;", "water 9;", 180);
        dueDebt("leak 0 9;leak 5 1;", "hours 2;bail 0;", "water 9;", 18);
        dueDebt("leak 0 9;leak 5 1;", "hours 2;", "water 0;", 0);
        Document.says("term 5", "odd: if X and Y together are odd;");
        int[][] places = {{0, 0, 0}, {0, 1, 1}, {1, 0, 1}, {1, 1, 0}, {2, 1, 1}, {2, 2, 0}, {5, 6, 1}};
        for (int[] place : places) {
            dueDebt("at " + place[0] + " " + place[1] + ";", "", "odd 99;", 99 * place[2]);
        }
    }

    /** Each TERM alone, where what all others ask for is so, too. */
    private static void debtsApart() {
        Document.says("term 5", "OWED in a STATE by a LAW: TERM by TERM, all together:");
        // all four sides are touched, 30 of weight, lists of 30 + 18 and more, 9 of water, X and Y odd together
        String lake = "raft 2 1;lake 2 2;at 0 1;stiff 0;float 99;grave 1 30;leak 0 9;wreath 9;";
        String day = "wind 0 9;hours 1;wind 2 9;hours 1;";
        String[] laws = {"grave 1;", "list 0 5;", "list 1 5;", "list 3 5;", "touch 0 7;", "touch 1 7;", "touch 2 7;", "touch 3 7;",
            "water 2;", "odd 11;", "most 13;"};
        int[] want = {30, 5, 5, 5, 7, 7, 7, 7, 36, 11, 0};
        int sum = 0;
        StringBuilder all = new StringBuilder();
        for (int k = 0; k < laws.length; k++) {
            dueDebt(lake, day, laws[k], want[k]);
            if (k != 1 && k != 2 && k != 4 && k != 10) {
                all.append(laws[k]);
                sum += want[k];
            }
        }
        dueDebt(lake, day, all.toString(), sum);
        dueDebt(lake, day, all + "most 13;", 13);
    }

    private static void mostDebts() {
        Document.says("term 5", "most: what the TERMS ahead make together is this at most.");
        dueDebt("at 0 1;", "", "most 9;", 0);
        dueDebt("at 0 1;", "", "odd 9;most 9;", 9);
        dueDebt("at 0 1;", "", "odd 9;most 10;", 9);
        dueDebt("at 0 1;", "", "odd 9;most 8;", 8);
        dueDebt("at 0 1;", "", "odd 9;most 0;", 0);
        dueDebt("at 0 1;", "", "most 0;odd 9;", 9);
        dueDebt("at 0 1;", "", "odd 9;odd 9;most 10;odd 9;", 19);
        dueDebt("at 0 1;", "", "odd 9;most 8;odd 9;most 12;odd 1;", 13);
        dueDebt("at 0 1;", "", "odd 9;most 8;most 5;most 7;", 5);
        dueDebt("grave 0 30;".repeat(12) + "at 0 1;", "", "grave 9;most 999;", 999);
        dueDebt("grave 0 30;".repeat(12) + "at 0 1;", "", "grave 9;", 3240);
        Document.says("promise 13", "OWED.");
        GraveRegatta x = Bench.told("lake:at 0 1;", "day:hours 1;calm;", "law:odd 1;", "law:odd 2;");
        Bench.due("by the first LAW", x.owed(0, 0, 0, 0), 1);
        Bench.due("by the second LAW", x.owed(0, 0, 1, 1), 2);
        Document.says("promise 13", "NONE: there is no such STATE, LAW.");
        for (int wrong : new int[] {-1, -2, 2, 3, MOST, LEAST}) {
            Bench.due("no such LAW", x.owed(0, 0, 0, wrong), NONE);
            Bench.due("no such STATE", x.owed(0, 0, wrong, 0), NONE);
            Bench.due("no such LAKE", x.owed(wrong, 0, 0, 0), NONE);
            Bench.due("no such DAY", x.owed(0, wrong, 0, 0), NONE);
        }
        Bench.due("no second LAW", Bench.told("lake:", "day:", "law:").owed(0, 0, 0, 1), NONE);
    }

    private static void refusals() {
        GraveRegatta x = Bench.told("lake:", "day:hours 1;calm;hours 1;");
        for (int wrong : new int[] {-1, -2, 2, 3, 4, MOST, LEAST}) {
            Document.says("promise 9", "-2: there is no such STATE, or for another what.");
            Bench.due("n", x.state(0, 0, wrong, 0), MISSING);
            Bench.due("LAKE", x.state(wrong, 0, 0, 0), MISSING);
            Bench.due("DAY", x.state(0, wrong, 0, 0), MISSING);
            Document.says("promise 10", "-1000000: there is no such STATE, axis.");
            Bench.due("n", x.list(0, 0, wrong, 0), NO_SUM);
            Bench.due("LAKE", x.list(wrong, 0, 0, 0), NO_SUM);
            Bench.due("DAY", x.list(0, wrong, 0, 0), NO_SUM);
            Bench.due("axis", x.list(0, 0, 0, wrong), NO_SUM);
            Document.says("promise 11", "-2: there is no such STATE, axis.");
            Bench.due("n", x.drift(0, 0, wrong, 0), MISSING);
            Bench.due("LAKE", x.drift(wrong, 0, 0, 0), MISSING);
            Bench.due("DAY", x.drift(0, wrong, 0, 0), MISSING);
            Bench.due("axis", x.drift(0, 0, 0, wrong), MISSING);
            Document.says("promise 12", "-2: there is no such STATE, or for another what.");
            Bench.due("n", x.goes(0, 0, wrong, 0), MISSING);
            Bench.due("LAKE", x.goes(wrong, 0, 0, 0), MISSING);
            Bench.due("DAY", x.goes(0, wrong, 0, 0), MISSING);
            Bench.due("what", x.goes(0, 0, 0, wrong), MISSING);
        }
        for (int what : new int[] {5, 9, 14, 20}) {
            Bench.due("what " + what, x.goes(0, 0, 0, what), MISSING);
        }
        for (int n : new int[] {0, 1}) {
            Bench.due("STATE " + n, x.goes(0, 0, n, 0), NONE);
        }
    }
}
