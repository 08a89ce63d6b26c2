/** Promises 21, 22, 24, 25, 27 to 29: nights, fogs, leaks, meetings, winds by a seed, trim. */
final class RiddleTest {
    private static final int NONE = GraveRegatta.NONE;

    private RiddleTest() {
    }

    static void run() {
        nights();
        corners();
        fogs();
        digging();
        bailing();
        meeting();
        drawing();
        trimming();
    }

    private static void nights() {
        // 2 columns, 1 row: to the right, if more weight than 5 is on place 1 above that on place 0
        String lake = "lake:raft 2 1;lake 6 3;at 2 1;mourner 6 0 0;mourner 4 0 1;mourner 2 0 0;";
        GraveRegatta x = Bench.told(lake, "night:lay 3 1;lay 4 1;", "night:lay 3 1;lay 3 1;");
        // above 5 to the right: 6; 6 and 4; 6 and 2; 6, 4 and 2; 6 and 4, less 2; 4 and 2
        Bench.due("21: fits", x.stood(0, 0, 0), 6);
        Bench.due("21: nobody is in all of these", x.stood(0, 0, 1), 0);
        Bench.due("21: the least number", x.stood(0, 0, 2), 1);
        Bench.due("21: later", x.stood(0, 0, 3), 2);
        Bench.due("21: none fits", x.stood(0, 1, 0), 0);
        Bench.due("21: nobody without ways", x.stood(0, 1, 1), 0);
        Bench.due("21: no least number without ways", x.stood(0, 1, 2), NONE);
        Bench.due("21: the first sight alone", x.stood(0, 1, 3), 1);
        Bench.due("21: another what", x.stood(0, 0, 4), -2);
        Bench.due("21: another what", x.stood(0, 0, -1), -2);
        Bench.due("21: no such night", x.stood(0, 2, 0), -2);
        Bench.due("21: no such lake", x.stood(1, 0, 0), -2);
        x = Bench.told("lake:raft 2 1;lake 6 3;at 2 1;mourner 6 0 0;mourner 1 0 1;leak 0 9;", "night:lay 1 1;", "night:");
        // 6 on the left, 1 not on the right
        Bench.due("21: fits", x.stood(0, 0, 0), 2);
        Bench.due("21: in all of these", x.stood(0, 0, 1), 1);
        Bench.due("22: on the right", x.corner(0, 0, 0, 1), 0);
        Bench.due("22: on the left", x.corner(0, 0, 0, 0), 2);
        Bench.due("22: ashore", x.corner(0, 0, 1, NONE), 1);
        Bench.due("21: no sights", x.stood(0, 1, 0), 9);
        Bench.due("21: no sights", x.stood(0, 1, 3), 0);
        Bench.due("21: no sights", x.stood(0, 1, 2), 0);
    }

    private static void corners() {
        GraveRegatta x = Bench.told("lake:mourner 1 0 0;mourner 1 0 0;", "lake:raft 1 3;mourner 1 0 0;", "night:", "night:lay 0 0;");
        int[] corners = {5, NONE, 5, 5, NONE, 5, NONE, NONE};
        for (int place = 0; place < corners.length; place++) {
            Bench.due("22: place " + place, x.corner(0, 0, 1, place), corners[place]);
        }
        Bench.due("22: ashore", x.corner(0, 0, 1, NONE), 5);
        Bench.due("22: one column: corners count once", x.stood(1, 0, 0), 3);
        Bench.due("22: one column", x.corner(1, 0, 0, 0), 1);
        Bench.due("22: one column", x.corner(1, 0, 0, 1), NONE);
        Bench.due("22: one column", x.corner(1, 0, 0, 2), 1);
        Bench.due("22: no such mourner", x.corner(0, 0, 2, 0), NONE);
        Bench.due("22: no such mourner", x.corner(0, 0, -1, 0), NONE);
        Bench.due("22: no such lake", x.corner(2, 0, 0, 0), NONE);
        Bench.due("22: no such night", x.corner(0, 2, 0, 0), NONE);
        Bench.due("22: no such place", x.corner(0, 0, 0, -2), NONE);
        Bench.due("22: one place", Bench.told("lake:raft 1 1;mourner 1 0 0;", "night:").stood(0, 0, 0), 2);
    }

    private static void fogs() {
        GraveRegatta x = Bench.told("fog:dead 0 1;dead 1;dead 5 6;", "fog:dead 3;dead 3;");
        Bench.due("24: ways", x.lies(0, 0), 2);
        Bench.due("24: sure", x.lies(0, 10), 0);
        Bench.due("24: sure", x.lies(0, 11), 1);
        Bench.due("24: not sure", x.lies(0, 12), NONE);
        Bench.due("24: may", x.lies(0, 20), 1);
        Bench.due("24: may", x.lies(0, 22), 96);
        Bench.due("24: dig", x.lies(0, 1), 32);
        Bench.due("24: no ways", x.lies(1, 0), 0);
        Bench.due("24: no dig without ways", x.lies(1, 1), NONE);
        Bench.due("24: not sure without ways", x.lies(1, 10), NONE);
        Bench.due("24: may nowhere without ways", x.lies(1, 21), 0);
        for (int what : new int[] {-1, 2, 9, 13, 19, 23, 28, 30, Integer.MAX_VALUE}) {
            Bench.due("24: another what " + what, x.lies(0, what), -2);
        }
        Bench.due("24: no such fog", x.lies(2, 0), -2);
        Bench.due("24: no such fog", x.lies(-1, 0), -2);
        x = Bench.told("fog:");
        Bench.due("24: nobody lies in one way", x.lies(0, 0), 1);
        Bench.due("24: nothing to dig", x.lies(0, 1), 0);
        Bench.due("24: nobody", x.lies(0, 10), -2);
    }

    private static void digging() {
        String all = "dead 0 1 2 3 4 5 6 7;";
        GraveRegatta x = Bench.told("fog:" + all.repeat(8), "fog:" + all.repeat(7));
        Bench.due("24: eight in eight", x.lies(0, 0), 40320);
        Bench.due("24: all but one are opened", x.lies(0, 1), 127);
        Bench.due("24: seven in eight", x.lies(1, 0), 40320);
        Bench.due("24: all but one are opened", x.lies(1, 1), 127);
        Bench.due("24: he may lie anywhere", x.lies(1, 26), 255);
        // one of two graves tells it; of several the least
        Bench.due("24: the least set", Bench.told("fog:dead 7 4;").lies(0, 1), 16);
        // one in the ring of three settles the others, too
        Bench.due("24: a ring", Bench.told("fog:dead 0 1;dead 1 2;dead 2 0;").lies(0, 1), 1);
        Bench.due("24: apart", Bench.told("fog:dead 0 1;dead 2 3;dead 4 5;").lies(0, 1), 21);
        Bench.due("24: one in many", Bench.told("fog:dead 0 1 2 3;").lies(0, 1), 7);
    }

    private static void bailing() {
        GraveRegatta x = Bench.told("lake:leak 0 3;leak 1 2;", "lake:");
        // hour 1: 5; bail 0: 2, then 7, bail 1 (4): 3, then 8; bail 0 (6): 2, 7
        Bench.due("25: an hour", x.bail(0, 1, NONE), 5);
        Bench.due("25: an hour: the first by rows", x.bail(0, 1, 0), 0);
        Bench.due("25: two hours", x.bail(0, 2, NONE), 7);
        Bench.due("25: two hours", x.bail(0, 2, 0), 0);
        Bench.due("25: two hours: the first by rows", x.bail(0, 2, 1), 0);
        Bench.due("25: three hours", x.bail(0, 3, NONE), 8);
        Bench.due("25: three hours", x.bail(0, 3, 0), 0);
        Bench.due("25: three hours", x.bail(0, 3, 1), 1);
        Bench.due("25: three hours", x.bail(0, 3, 2), 0);
        Bench.due("25: no such k", x.bail(0, 3, 3), NONE);
        Bench.due("25: no such k", x.bail(0, 3, -2), NONE);
        Bench.due("25: another n", x.bail(0, 0, NONE), NONE);
        Bench.due("25: another n", x.bail(0, 9, NONE), NONE);
        Bench.due("25: no leaks", x.bail(1, 1, NONE), NONE);
        Bench.due("25: no such lake", x.bail(2, 1, NONE), NONE);
        x = Bench.told("lake:leak 0 3;leak 0 2;float 1;");
        Bench.due("25: leaks on one place are bailed each by itself", x.bail(0, 2, NONE), 7);
        Bench.due("25: one leak", Bench.told("lake:leak 0 9;").bail(0, 8, NONE), 9);
        Bench.due("25: one leak", Bench.told("lake:leak 0 9;").bail(0, 8, 7), 0);
    }

    private static void meeting() {
        // the first goes right, the second left: 5 cells between them
        String right = "lake:lake 12 3;raft 2 1;grave 1 9;";
        GraveRegatta x = Bench.told(right, "lake:lake 12 12;raft 2 1;at 7 0;grave 0 9;rock 5 5;rock 3 0;");
        Bench.due("27: in common", x.meet(0, 1, false), 3);
        Bench.due("27: side by side", x.meet(0, 1, true), 3);
        Bench.due("27: the second one's rocks do not count, the first one's do", x.meet(1, 0, false), NONE);
        Bench.due("27: with itself", x.meet(0, 0, false), 0);
        Bench.due("27: with itself", x.meet(0, 0, true), 0);
        Bench.due("27: no such lake", x.meet(0, 2, false), NONE);
        Bench.due("27: no such lake", x.meet(2, 0, true), NONE);
        x = Bench.told(right, "lake:lake 12 12;raft 2 1;at 8 0;grave 0 9;");
        Bench.due("27: in common a cell", x.meet(0, 1, false), 4);
        Bench.due("27: side by side before", x.meet(0, 1, true), 3);
        x = Bench.told("lake:raft 1 1;at 3 3;", "lake:raft 1 1;at 4 4;");
        Bench.due("27: by corners is not side by side", x.meet(0, 1, true), NONE);
        x = Bench.told("lake:raft 1 1;at 3 3;", "lake:raft 1 1;at 3 4;");
        Bench.due("27: side by side at first", x.meet(0, 1, true), 0);
        Bench.due("27: never in common", x.meet(1, 0, false), NONE);
        x = Bench.told("lake:lake 4 4;raft 1 1;", "lake:lake 12 12;raft 2 2;at 3 0;", "night:");
        Bench.due("27: the second one is not all in the first lake", x.meet(0, 1, true), NONE);
        Bench.due("27: the first one is in the second lake", x.meet(1, 0, true), NONE);
        x = Bench.told("lake:raft 1 1;at 3 3;leak 0 9;float 1;", "lake:raft 2 1;at 5 3;grave 0 6;leak 0 9;float 1;");
        Bench.due("27: no leaks", x.meet(0, 1, false), 2);
    }

    private static void drawing() {
        GraveRegatta x = Bench.told("lake:raft 1 1;lake 12 12;at 6 6;wreath 9;drag 1;", "lake:raft 1 1;leak 0 4;float 9;wreath 9;");
        int seed = 7;
        int atX = 6;
        int atY = 6;
        int touched = 0;
        int aground = 0;
        for (int n = 1; n <= 40; n++) {
            seed = seed * 1103515245 + 12345;
            int way = (seed >>> 16) % 5;
            if (way < 4) {
                seed = seed * 1103515245 + 12345;
                int nextX = atX + (way == 1 ? 1 : way == 3 ? -1 : 0);
                int nextY = atY + (way == 2 ? 1 : way == 0 ? -1 : 0);
                boolean isIn = nextX >= 0 && nextX < 12 && nextY >= 0 && nextY < 12;
                aground += isIn ? 0 : 1;
                atX = isIn ? nextX : atX;
                atY = isIn ? nextY : atY;
            }
            touched |= (atY == 0 ? 1 : 0) | (atX == 11 ? 2 : 0) | (atY == 11 ? 4 : 0) | (atX == 0 ? 8 : 0);
            int[] want = {atX, atY, touched, aground, 0};
            for (int what = 0; what < 5; what++) {
                Bench.due("28: hour " + n + " what " + what, x.drawn(0, 7, n, what), want[what]);
            }
        }
        Bench.due("28: not yet sunk", x.drawn(1, -5, 2, 4), 0);
        Bench.due("28: sunk", x.drawn(1, -5, 3, 4), 1);
        Bench.due("28: sunk it stays", x.drawn(1, -5, 40, 0), x.drawn(1, -5, 3, 0));
        Bench.due("28: another n", x.drawn(0, 1, 0, 0), -2);
        Bench.due("28: another n", x.drawn(0, 1, 41, 0), -2);
        Bench.due("28: another what", x.drawn(0, 1, 1, 5), -2);
        Bench.due("28: another what", x.drawn(0, 1, 1, -1), -2);
        Bench.due("28: no such lake", x.drawn(2, 1, 1, 0), -2);
    }

    private static void trimming() {
        GraveRegatta x = Bench.told("lake:grave 0 3;grave 5 3;grave 4 2;mourner 2 0 0;mourner 1 0 1;", "lake:mourner 1 0 0;");
        // rows: 3, 5; columns: 3, 2, 3
        Bench.due("29: the heaviest row", x.trim(0, 0), 1);
        Bench.due("29: the heaviest column, of several the least", x.trim(0, 1), 0);
        // lists: x 0, y 2; without 0: 6 + 5, without 5: 6 + 1, without 4: 0
        Bench.due("29: keel", x.trim(0, 2), 2);
        // weight 2 on place 1: 0 + 0
        Bench.due("29: trim", x.trim(0, 10), 1);
        Bench.due("29: trim", x.trim(0, 11), 1);
        Bench.due("29: no such mourner", x.trim(0, 12), NONE);
        Bench.due("29: no graves: the first row", x.trim(1, 0), 0);
        Bench.due("29: no graves: the first column", x.trim(1, 1), 0);
        Bench.due("29: no keel", x.trim(1, 2), NONE);
        Bench.due("29: trim, of several the least", x.trim(1, 10), 1);
        for (int what : new int[] {-1, 3, 9, 15, Integer.MAX_VALUE}) {
            Bench.due("29: another what", x.trim(0, what), NONE);
        }
        Bench.due("29: no such lake", x.trim(2, 0), NONE);
        x = Bench.told("lake:raft 2 2;grave 3 4;grave 1 4;grave 0 4;", "lake:raft 2 1;grave 1 4;grave 0 4;");
        Bench.due("29: the heaviest column", x.trim(0, 1), 1);
        Bench.due("29: keel", x.trim(0, 2), 1);
        Bench.due("29: keel, of several the least", x.trim(1, 2), 0);
    }
}
