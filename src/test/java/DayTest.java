/** Promises 8 to 13: days, deed by deed. */
final class DayTest {
    private static final int NONE = GraveRegatta.NONE;

    private DayTest() {
    }

    static void run() {
        deedsThatCannotBe();
        missing();
        lists();
        leaning();
        blowing();
        aground();
        frostAndMoorings();
        leaking();
        touching();
        foresight();
        turning();
        owing();
    }

    private static void dueStop(String lake, String day, int stop) {
        Bench.due("8: <" + lake + "> <" + day + ">", Bench.told("lake:" + lake, "day:" + day).stop(0, 0), stop);
    }

    private static void deedsThatCannotBe() {
        String two = "mourner 1 0 0;mourner 1 0 1;";
        dueStop(two, "", 0);
        dueStop(two, "stand 0 0;stand 1 0;stand 0 5;leave 0;stand 0 5;", 5);
        dueStop(two, "stand 2 0;", 0);
        dueStop(two, "stand 1 6;", 0);
        dueStop(two, "stand 1 5;stand 1 5;", 1);
        dueStop(two, "leave 0;", 0);
        dueStop(two, "stand 0 0;leave 0;leave 0;", 2);
        dueStop(two, "stand 0 0;leave 2;", 1);
        dueStop(two, "calm;", 0);
        dueStop(two, "wind 1 1;wind 1 1;calm;calm;", 3);
        dueStop(two, "thaw;", 0);
        dueStop(two, "frost;frost;", 1);
        dueStop(two, "frost;thaw;frost;thaw;thaw;", 4);
        dueStop(two, "cast;", 0);
        dueStop(two, "moor;cast;moor;moor;", 3);
        dueStop("at 1 1;", "moor;", 0);
        dueStop("at 5 1;", "frost;moor;cast;cast;", 3);
        dueStop("leak 0 1;", "bail 0;", 0);
        dueStop("leak 0 1;", "hours 1;bail 0;bail 0;", 2);
        dueStop("leak 0 1;", "hours 1;bail 1;", 1);
        dueStop("leak 0 1;", "hours 1;bail 6;", 1);
        dueStop("leak 0 9;float 8;", "wind 1 1;hours 9;calm;", 2);
        dueStop("leak 0 9;float 9;", "hours 1;bail 0;hours 1;bail 0;hours 2;hours 1;", 5);
    }

    private static void missing() {
        GraveRegatta x = Bench.told("lake:mourner 1 0 0;", "day:hours 1;calm;hours 1;", "law:odd 1;");
        Bench.due("8: no such lake", x.stop(1, 0), NONE);
        Bench.due("8: no such day", x.stop(0, 1), NONE);
        Bench.due("8: no such day", x.stop(0, -1), NONE);
        int[][] wrong = {{1, 0, 0}, {0, 1, 0}, {-1, 0, 0}, {0, 0, -1}, {0, 0, 2}, {0, 0, 4}, {0, 0, Integer.MAX_VALUE}};
        for (int[] at : wrong) {
            Bench.due("9: no such state", x.state(at[0], at[1], at[2], 0), -2);
            Bench.due("10: no such state", x.list(at[0], at[1], at[2], 0), -1000000);
            Bench.due("11: no such state", x.drift(at[0], at[1], at[2], 0), -2);
            Bench.due("12: no such state", x.goes(at[0], at[1], at[2], 0), -2);
            Bench.due("13: no such state", x.owed(at[0], at[1], at[2], 0), NONE);
        }
        for (int what : new int[] {-1, 11, 19, 21, 25, 29, 36, 46, Integer.MIN_VALUE}) {
            Bench.due("9: another what " + what, x.state(0, 0, 1, what), -2);
        }
        Bench.due("9: a mourner ashore", x.state(0, 0, 1, 20), NONE);
        Bench.due("9: the last place", x.state(0, 0, 1, 35), 0);
        for (int axis : new int[] {-1, 2}) {
            Bench.due("10: no such axis", x.list(0, 0, 1, axis), -1000000);
            Bench.due("11: no such axis", x.drift(0, 0, 1, axis), -2);
        }
        for (int what : new int[] {-1, 2, 9, 14, 30}) {
            Bench.due("12: another what " + what, x.goes(0, 0, 1, what), -2);
        }
        Bench.due("13: no such law", x.owed(0, 0, 1, 1), NONE);
        Bench.due("13: no such law", x.owed(0, 0, 1, -1), NONE);
    }

    private static void lists() {
        // 3 columns: arms -2, 0, 2; 2 rows: arms -1, 1
        GraveRegatta x = Bench.told("lake:grave 0 10;grave 5 3;mourner 6 0 0;mourner 4 0 0;leak 4 2;stiff 99;",
                "day:stand 0 2;stand 1 3;hours 2;leave 0;stand 1 2;");
        int[][] want = {{-14, -7}, {-2, -13}, {-10, -9}, {-10, -5}, {-22, 1}, {-6, -7}};
        for (int n = 0; n < 6; n++) {
            Bench.due("10: list of x behind " + n, x.list(0, 0, n, 0), want[n][0]);
            Bench.due("10: list of y behind " + n, x.list(0, 0, n, 1), want[n][1]);
        }
        Bench.due("9: stands", x.state(0, 0, 1, 20), 2);
        Bench.due("9: not yet aboard", x.state(0, 0, 1, 21), NONE);
        Bench.due("9: ashore again", x.state(0, 0, 4, 20), NONE);
        Bench.due("9: stands elsewhere", x.state(0, 0, 5, 21), 2);
        // 4 columns: arms -3, -1, 1, 3; 1 row: arm 0
        x = Bench.told("lake:raft 4 1;grave 0 1;grave 1 1;grave 3 2;", "day:");
        Bench.due("10: four columns", x.list(0, 0, 0, 0), 2);
        Bench.due("10: one row", x.list(0, 0, 0, 1), 0);
    }

    private static void leaning() {
        GraveRegatta x = Bench.told("lake:raft 2 2;stiff 5;grave 1 5;at 3 3;", "lake:raft 2 2;stiff 5;grave 1 6;at 3 3;",
                "day:hours 2;");
        Bench.due("11: a list as high as stiff", x.drift(0, 0, 0, 0), 0);
        Bench.due("11: a list as low as stiff", x.drift(0, 0, 0, 1), 0);
        Bench.due("11: above it", x.drift(1, 0, 0, 0), 1);
        Bench.due("11: above it, to the other side", x.drift(1, 0, 0, 1), -1);
        Bench.due("9: it does not drift", x.state(0, 0, 1, 0), 3);
        Bench.due("9: it drifts", x.state(1, 0, 1, 0), 5);
        Bench.due("9: it drifts", x.state(1, 0, 1, 1), 1);
        Bench.due("9: hours", x.state(1, 0, 1, 2), 2);
    }

    private static void blowing() {
        String lake = "lake:at 3 3;wreath 2;wreath 3;drag 15;raft 2 2;stiff 0;";
        GraveRegatta x = Bench.told(lake, lake + "grave 0 1;grave 2 1;", "day:wind 1 2;wind 1 3;hours 1;wind 0 3;hours 1;"
                + "wind 3 9;hours 1;wind 2 4;hours 2;calm;hours 1;");
        Bench.due("9: calm", x.state(0, 0, 0, 9), NONE);
        Bench.due("9: no force", x.state(0, 0, 0, 10), 0);
        Bench.due("9: way", x.state(0, 0, 2, 9), 1);
        Bench.due("9: force", x.state(0, 0, 2, 10), 3);
        Bench.due("9: calm again", x.state(0, 0, 10, 9), NONE);
        Bench.due("9: no force again", x.state(0, 0, 10, 10), 0);
        Bench.due("11: sail below drag", x.drift(0, 0, 1, 0), 0);
        Bench.due("11: sail as drag", x.drift(0, 0, 2, 0), 1);
        Bench.due("11: on its axis alone", x.drift(0, 0, 2, 1), 0);
        Bench.due("11: up", x.drift(0, 0, 4, 1), -1);
        int[][] want = {{3, 4, 3}, {5, 4, 2}, {7, 3, 2}, {9, 3, 4}, {11, 3, 4}};
        for (int[] one : want) {
            Bench.due("9: blown, x behind " + one[0], x.state(0, 0, one[0], 0), one[1]);
            Bench.due("9: blown, y behind " + one[0], x.state(0, 0, one[0], 1), one[2]);
        }
        Bench.due("11: against its lean", x.drift(1, 0, 2, 0), 0);
        Bench.due("11: with its lean", x.drift(1, 0, 6, 0), -1);
        Bench.due("11: lean alone", x.drift(1, 0, 0, 0), -1);
    }

    private static void aground() {
        // it leans right and down; a rock stops it along x, then it goes down past it
        GraveRegatta x = Bench.told("lake:raft 2 2;stiff 0;grave 3 1;rock 2 1;lake 4 4;", "day:hours 1;hours 1;hours 1;hours 1;");
        int[][] want = {{0, 0, 0, 9}, {0, 1, 1, 9}, {0, 2, 2, 13}, {1, 2, 3, 13}, {2, 2, 4, 15}};
        for (int n = 0; n < want.length; n++) {
            for (int what : new int[] {0, 1}) {
                Bench.due("9: on a rock, " + what + " behind " + n, x.state(0, 0, n, what), want[n][what]);
            }
            Bench.due("9: aground behind " + n, x.state(0, 0, n, 3), want[n][2]);
            Bench.due("9: touched behind " + n, x.state(0, 0, n, 4), want[n][3]);
        }
        Bench.due("9: x is gone along first", Bench.told("lake:raft 1 1;stiff 0;wreath 9;rock 1 1;lake 3 3;grave 0 1;",
                "day:wind 2 9;hours 1;").state(0, 0, 2, 1), 1);
        x = Bench.told("lake:raft 2 2;stiff 0;grave 3 1;rock 2 2;lake 4 4;", "day:hours 1;");
        Bench.due("9: first along x", x.state(0, 0, 1, 0), 1);
        Bench.due("9: then not along y", x.state(0, 0, 1, 1), 0);
        Bench.due("9: once", x.state(0, 0, 1, 3), 1);
    }

    private static void frostAndMoorings() {
        GraveRegatta x = Bench.told("lake:raft 2 2;stiff 0;grave 1 1;grave 3 1;leak 0 1;leak 2 1;leak 2 1;at 1 0;",
                "day:frost;hours 1;moor;thaw;hours 1;cast;hours 1;bail 0;bail 2;frost;");
        Bench.due("9: frost", x.state(0, 0, 1, 7), 1);
        Bench.due("9: no frost", x.state(0, 0, 0, 7), 0);
        Bench.due("9: thawed", x.state(0, 0, 4, 7), 0);
        Bench.due("9: moored", x.state(0, 0, 3, 8), 1);
        Bench.due("9: not moored", x.state(0, 0, 2, 8), 0);
        Bench.due("9: cast off", x.state(0, 0, 6, 8), 0);
        Bench.due("9: it stays in frost", x.state(0, 0, 2, 0), 1);
        Bench.due("9: water comes in frost", x.state(0, 0, 2, 5), 3);
        Bench.due("9: it stays moored", x.state(0, 0, 5, 0), 1);
        Bench.due("9: water comes on moorings", x.state(0, 0, 5, 5), 6);
        Bench.due("11: frost aside", x.drift(0, 0, 1, 0), 1);
        Bench.due("11: moorings aside", x.drift(0, 0, 5, 0), -1);
        Bench.due("9: it goes when cast off", x.state(0, 0, 7, 0), 0);
        Bench.due("9: water on a place", x.state(0, 0, 7, 32), 6);
        Bench.due("9: water bailed", x.state(0, 0, 9, 32), 0);
        Bench.due("9: water bailed", x.state(0, 0, 9, 5), 0);
        Bench.due("9: hours", x.state(0, 0, 10, 2), 3);
    }

    private static void leaking() {
        GraveRegatta x = Bench.told("lake:leak 5 3;float 9;stiff 0;", "day:hours 3;hours 9;");
        Bench.due("9: as much as float", x.state(0, 0, 1, 6), 0);
        Bench.due("9: water", x.state(0, 0, 1, 5), 9);
        Bench.due("9: sunk", x.state(0, 0, 2, 6), 1);
        Bench.due("9: the other hours are not", x.state(0, 0, 2, 2), 4);
        Bench.due("9: water comes no more", x.state(0, 0, 2, 5), 12);
        Bench.due("9: it drifted by the water", x.state(0, 0, 2, 0), 3);
        Bench.due("12: hold of a sunk one", x.goes(0, 0, 2, 1), 0);
        Bench.due("12: wake of a sunk one", x.goes(0, 0, 2, 0), NONE);
    }

    private static void touching() {
        GraveRegatta x = Bench.told("lake:raft 2 1;lake 5 3;at 1 1;wreath 9;", "day:wind 3 1;hours 1;wind 0 1;hours 1;"
                + "wind 1 1;hours 3;wind 2 1;hours 2;");
        int[] want = {0, 0, 8, 8, 9, 9, 11, 11, 15};
        for (int n = 0; n < want.length; n++) {
            Bench.due("9: touched behind " + n, x.state(0, 0, n, 4), want[n]);
        }
        x = Bench.told("lake:raft 4 4;lake 4 4;", "day:");
        Bench.due("9: touched at first", x.state(0, 0, 0, 4), 15);
    }

    private static void foresight() {
        GraveRegatta x = Bench.told("lake:raft 1 1;lake 12 2;wreath 9;leak 0 1;float 10;",
                "day:wind 1 9;hours 4;frost;thaw;wind 1 9;moor;cast;bail 0;");
        Bench.due("12: calm", x.goes(0, 0, 0, 0), NONE);
        Bench.due("12: it sinks before", x.goes(0, 0, 1, 0), NONE);
        Bench.due("12: hold", x.goes(0, 0, 1, 1), 11);
        Bench.due("12: hold later", x.goes(0, 0, 2, 1), 7);
        Bench.due("12: frost", x.goes(0, 0, 3, 0), NONE);
        Bench.due("12: hold in frost", x.goes(0, 0, 3, 1), 7);
        Bench.due("12: bailed", x.goes(0, 0, 8, 0), 8);
        Bench.due("12: bailed", x.goes(0, 0, 8, 1), 11);
        x = Bench.told("lake:raft 1 1;lake 12 2;wreath 9;leak 0 1;float 60;", "lake:leak 0 1;float 59;", "day:wind 1 9;hours 9;"
                + "hours 2;");
        Bench.due("12: wake", x.goes(0, 0, 1, 0), 12);
        Bench.due("12: wake at the shore", x.goes(0, 0, 3, 0), 1);
        Bench.due("12: not in 60", x.goes(0, 0, 0, 1), NONE);
        String leaky = "lake:raft 2 1;leak 0 1;float 99;stiff ";
        Bench.due("12: wake in 60", Bench.told(leaky + "58;", "day:").goes(0, 0, 0, 0), 60);
        Bench.due("12: wake not in 60", Bench.told(leaky + "59;", "day:").goes(0, 0, 0, 0), NONE);
        Bench.due("12: in 60", x.goes(1, 0, 0, 1), 60);
    }

    private static void turning() {
        GraveRegatta x = Bench.told("lake:at 3 3;wreath 2;drag 5;grave 2 6;grave 3 3;stiff 2;", "lake:wreath 1;drag 10;",
                "day:wind 3 9;frost;");
        // lists: x 12 - 6 = 6, y -6 + 3 = -3: it leans right and up
        Bench.due("12: by its lean already", x.goes(0, 0, 0, 10), 1);
        Bench.due("12: by its lean already", x.goes(0, 0, 0, 11), 1);
        Bench.due("12: against its lean", x.goes(0, 0, 0, 12), NONE);
        Bench.due("12: against its lean", x.goes(0, 0, 2, 13), NONE);
        Bench.due("12: by none", x.goes(1, 0, 0, 10), NONE);
        Bench.due("12: the least force", Bench.told("lake:wreath 2;drag 5;", "day:").goes(0, 0, 0, 13), 3);
        Bench.due("12: the least force", Bench.told("lake:wreath 2;drag 18;", "day:").goes(0, 0, 0, 12), 9);
        Bench.due("12: the least force", Bench.told("lake:wreath 2;drag 19;", "day:").goes(0, 0, 0, 12), NONE);
    }

    private static void owing() {
        String lake = "lake:grave 0 10;grave 5 3;leak 1 2;mourner 4 0 0;lake 8 8;at 1 0;stiff 99;";
        GraveRegatta x = Bench.told(lake, "day:hours 2;stand 0 2;", "law:grave 2;list 20 50;touch 0 7;touch 3 90;water 3;odd 11;",
                "law:most 5;grave 1;most 10;most 99;odd 4;");
        // at first: lists -14, -7: 21; behind 2 hours 4 WATER on place 1: -14, -11
        Bench.due("13: at first", x.owed(0, 0, 0, 0), 26 + 50 + 7 + 11);
        Bench.due("13: with water", x.owed(0, 0, 1, 0), 26 + 50 + 7 + 12 + 11);
        Bench.due("13: at most what the terms ahead make", x.owed(0, 0, 0, 1), 14);
        Bench.due("13: as many as the number", Bench.told(lake, "day:", "law:list 21 50;").owed(0, 0, 0, 0), 0);
        Bench.due("13: above the number", Bench.told(lake, "day:", "law:list 20 50;").owed(0, 0, 0, 0), 50);
        Bench.due("13: not odd", Bench.told("lake:at 1 1;", "day:", "law:odd 50;").owed(0, 0, 0, 0), 0);
        Bench.due("13: no terms", Bench.told("lake:at 1 1;", "day:", "law:").owed(0, 0, 0, 0), 0);
        Bench.due("13: the mourners' list", x.list(0, 0, 2, 0), -6);
    }
}
