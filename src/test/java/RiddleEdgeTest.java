import java.math.BigInteger;

/** Edges of nights, fogs, leaks, meetings, winds by a seed, trim: terms 4 to 6, promises 21, 22, 24, 25, 27 to 29. */
final class RiddleEdgeTest {
    private static final int NONE = GraveRegatta.NONE;
    private static final int MISSING = -2;
    private static final int LEAST = Integer.MIN_VALUE;
    private static final int MOST = Integer.MAX_VALUE;

    private RiddleEdgeTest() {
    }

    static void run() {
        corners();
        sights();
        askew();
        fits();
        aboard();
        likely();
        nightsRefused();
        cornersRefused();
        fogs();
        sure();
        digging();
        fogsRefused();
        bailing();
        bailingTies();
        bailRefused();
        meeting();
        meetingByHours();
        beside();
        meetRefused();
        drawing();
        drawingLeaks();
        drawnRefused();
        trimming();
        heaviest();
        keels();
        trimRefused();
    }

    private static void says(String words) {
        Document.says("term 4", words);
    }

    private static GraveRegatta night(String lake, String night) {
        return Bench.told("lake:" + lake, "night:" + night);
    }

    private static void corners() {
        says("each MOURNER stood all the time on one of the RAFT's corners (of column 0 or the last, row 0 or the last; corners "
                + "that are one PLACE count once), or was ashore;");
        String[] rafts = {"1 1", "2 1", "1 2", "3 1", "4 1", "1 3", "1 4", "2 2", "3 2", "2 3", "4 4"};
        int[][] corners = {{0}, {0, 1}, {0, 1}, {0, 2}, {0, 3}, {0, 2}, {0, 3}, {0, 1, 2, 3}, {0, 2, 3, 5}, {0, 1, 4, 5},
            {0, 3, 12, 15}};
        for (int k = 0; k < rafts.length; k++) {
            GraveRegatta x = night("raft " + rafts[k] + ";mourner 1 0 0;", "");
            Bench.due("raft " + rafts[k] + " FITS", x.stood(0, 0, 0), corners[k].length + 1);
            Bench.due("raft " + rafts[k] + " ashore", x.corner(0, 0, 0, NONE), 1);
            for (int place = 0; place <= 16; place++) {
                int at = place;
                boolean isCorner = java.util.Arrays.stream(corners[k]).anyMatch(one -> one == at);
                Bench.due("raft " + rafts[k] + " place " + place, x.corner(0, 0, 0, place), isCorner ? 1 : NONE);
            }
        }
        // all the time: not one hour here, and one there
        GraveRegatta x = night("raft 2 1;lake 6 2;at 2 0;mourner 6 0 0;", "lay 3 0;lay 2 0;");
        Bench.due("there and back", x.stood(0, 0, 0), 0);
    }

    private static void sights() {
        says("By a NIGHT, from a LAKE as told, calm, no FROST, no LEAKS:");
        String lake = "raft 2 1;lake 6 2;at 2 0;mourner 6 0 0;";
        String[] nights = {"", "lay 3 0;lay 4 0;lay 4 0;", "lay 1 0;lay 0 0;lay 0 0;", "lay 2 0;".repeat(8), "lay 2 0;lay 3 0;"};
        int[] fits = {3, 1, 1, 1, 0};
        for (String more : new String[] {"", "leak 0 9;float 1;", "wreath 9;drag 1;"}) {
            for (int k = 0; k < nights.length; k++) {
                Bench.due(more + " " + nights[k], night(lake + more, nights[k]).stood(0, 0, 0), fits[k]);
            }
        }
        says("SIGHT k is where it lay behind HOUR k and 1.");
        // the first one is behind an hour, not at first
        String onward = "raft 2 1;lake 12 2;at 2 0;grave 1 6;";
        Bench.due("where it lay at first", night(onward, "lay 2 0;").stood(0, 0, 0), 0);
        Bench.due("an hour later", night(onward, "lay 3 0;").stood(0, 0, 0), 1);
        Bench.due("eight hours", night(onward, "lay 3 0;lay 4 0;lay 5 0;lay 6 0;lay 7 0;lay 8 0;lay 9 0;lay 10 0;")
                .stood(0, 0, 0), 1);
        Bench.due("the eighth one is wrong", night(onward, "lay 3 0;lay 4 0;lay 5 0;lay 6 0;lay 7 0;lay 8 0;lay 9 0;lay 9 0;")
                .stood(0, 0, 0), 0);
        Bench.due("x is right alone", night(onward, "lay 3 1;").stood(0, 0, 0), 0);
        Bench.due("aground it stays", night(onward + "at 10 0;", "lay 10 0;lay 10 0;").stood(0, 0, 0), 1);
        Bench.due("a rock", night(onward + "rock 5 0;", "lay 3 0;lay 3 0;").stood(0, 0, 0), 1);
    }

    /** Along both axes: where it goes by each corner on which one stands, and by all four sides of two. */
    private static void askew() {
        says("each MOURNER stood all the time on one of the RAFT's corners");
        String lake = "raft 3 4;lake 12 12;at 4 4;mourner 6 0 0;";
        int[] corners = {0, 2, 9, 11};
        for (int k = 0; k < 4; k++) {
            int x = 4 + (k % 2 == 0 ? -1 : 1);
            int y = 4 + (k < 2 ? -1 : 1);
            GraveRegatta one = night(lake, "lay " + x + " " + y + ";lay " + (2 * x - 4) + " " + (2 * y - 4) + ";");
            Bench.due("corner " + corners[k] + " FITS", one.stood(0, 0, 0), 1);
            for (int corner : corners) {
                Bench.due("corner " + corners[k] + ": " + corner, one.corner(0, 0, 0, corner), corner == corners[k] ? 1 : 0);
            }
            Bench.due("not x alone", night(lake, "lay " + x + " 4;").stood(0, 0, 0), 0);
            Bench.due("not y alone", night(lake, "lay 4 " + y + ";").stood(0, 0, 0), 0);
        }
        // two of weight 6 side by side, one the other way round: two ways for each side
        String[] sides = {"lay 4 3;", "lay 5 4;", "lay 4 5;", "lay 3 4;"};
        for (String side : sides) {
            Bench.due(side, night(lake + "mourner 6 0 0;", side).stood(0, 0, 0), 2);
        }
        // the graves lean it, too
        Bench.due("graves", night("raft 1 2;at 3 3;grave 1 6;", "lay 3 4;").stood(0, 0, 0), 1);
        Bench.due("not without them", night("raft 1 2;at 3 3;grave 1 5;", "lay 3 4;").stood(0, 0, 0), 0);
        // a night asked behind another one has nothing of it
        GraveRegatta x = Bench.told("lake:" + lake, "night:lay 5 5;lay 6 6;", "night:lay 11 11;");
        Bench.due("LATER of the first", x.stood(0, 0, 3), 2);
        Bench.due("LATER of the second", x.stood(0, 1, 3), 0);
        Bench.due("ABOARD of the second", x.stood(0, 1, 1), 0);
        Bench.due("LIKELY of the second", x.stood(0, 1, 2), NONE);
    }

    private static void fits() {
        says("FITS: in how many ways;");
        Bench.due("nobody, one way", night("", "").stood(0, 0, 0), 1);
        Bench.due("nobody, one way", night("", "lay 0 0;").stood(0, 0, 0), 1);
        Bench.due("nobody, no way", night("", "lay 1 0;").stood(0, 0, 0), 0);
        String five = "mourner 1 0 0;".repeat(5);
        Bench.due("five on four corners or ashore", night(five + "stiff 99;", "lay 0 0;").stood(0, 0, 0), 3125);
        Bench.due("five on one corner or ashore", night("raft 1 1;" + five, "").stood(0, 0, 0), 32);
        says("CORNER of a MOURNER and a PLACE: in how many ways he stood there (PLACE NONE: ashore).");
        GraveRegatta x = night(five + "stiff 99;", "lay 0 0;");
        for (int place : new int[] {NONE, 0, 2, 3, 5}) {
            Bench.due("the first at " + place, x.corner(0, 0, 0, place), 625);
            Bench.due("the last at " + place, x.corner(0, 0, 4, place), 625);
        }
        x = night("raft 2 1;at 2 0;mourner 6 0 0;mourner 1 0 0;", "lay 3 0;");
        int[][] want = {{0, 0, 2}, {1, 0, 1}};
        for (int mourner = 0; mourner < 2; mourner++) {
            for (int place = NONE; place <= 1; place++) {
                Bench.due("MOURNER " + mourner + " at " + place, x.corner(0, 0, mourner, place), want[mourner][place + 1]);
            }
        }
        x = night("raft 2 1;at 2 0;mourner 1 0 0;", "lay 3 0;");
        for (int place = NONE; place <= 1; place++) {
            Bench.due("no ways at " + place, x.corner(0, 0, 0, place), 0);
        }
    }

    private static void dueStood(String lake, String night, int fits, int aboard, int likely, int later) {
        int[] want = {fits, aboard, likely, later};
        GraveRegatta x = night(lake, night);
        for (int what = 0; what < 4; what++) {
            Bench.due("<" + lake + "> <" + night + "> " + what, x.stood(0, 0, what), want[what]);
        }
    }

    private static void aboard() {
        says("ABOARD: MOURNERS (bits) who were in all of these;");
        Document.says("promise 21", "1: ABOARD (bits; 0 without ways)");
        String lake = "raft 2 1;lake 12 2;at 5 0;";
        dueStood(lake + "mourner 6 0 0;", "lay 6 0;", 1, 1, 1, 1);
        dueStood(lake + "mourner 6 0 0;", "lay 5 0;", 1, 0, 0, 1);
        dueStood(lake + "mourner 6 0 0;mourner 6 0 0;", "lay 6 0;", 3, 0, 1, 1);
        // two of weight 3 do it together alone
        dueStood(lake + "mourner 3 0 0;mourner 3 0 0;", "lay 6 0;", 1, 3, 2, 1);
        dueStood(lake + "mourner 1 0 0;".repeat(4) + "mourner 5 0 0;", "lay 6 0;", 31, 16, 2, 1);
        dueStood(lake + "mourner 2 0 0;mourner 1 0 0;mourner 1 0 0;mourner 1 0 0;mourner 1 0 0;", "lay 6 0;", 1, 31, 5, 1);
        dueStood(lake + "mourner 5 0 0;", "lay 6 0;", 0, 0, NONE, 0);
        dueStood("", "", 1, 0, 0, 0);
    }

    private static void likely() {
        says("LIKELY: the least number of MOURNERS aboard by which it FITS;");
        Document.says("promise 21", "2: LIKELY (NONE), 3: LATER.");
        String lake = "raft 2 1;lake 12 2;at 5 0;";
        dueStood(lake + "grave 1 6;mourner 6 0 0;", "lay 6 0;", 2, 0, 0, 1);
        dueStood(lake + "grave 1 6;mourner 6 0 0;", "lay 5 0;", 1, 1, 1, 1);
        dueStood(lake + "grave 1 6;mourner 6 0 0;", "lay 4 0;", 0, 0, NONE, 0);
        says("LATER: how many SIGHTS, from the first one on, FIT any way at all (the longest row).");
        dueStood(lake + "mourner 6 0 0;", "", 3, 0, 0, 0);
        dueStood(lake + "mourner 6 0 0;", "lay 7 0;lay 6 0;", 0, 0, NONE, 0);
        dueStood(lake + "mourner 6 0 0;", "lay 6 0;lay 6 0;", 0, 0, NONE, 1);
        dueStood(lake + "mourner 6 0 0;", "lay 6 0;lay 7 0;lay 7 0;lay 9 0;", 0, 0, NONE, 2);
        dueStood(lake + "mourner 6 0 0;", "lay 6 0;lay 7 0;lay 8 0;lay 9 0;lay 10 0;lay 10 0;lay 10 0;lay 9 0;", 0, 0, NONE, 7);
        dueStood(lake + "mourner 6 0 0;", "lay 6 0;lay 7 0;lay 8 0;lay 9 0;lay 10 0;lay 10 0;lay 10 0;lay 10 0;", 1, 1, 1, 8);
        // the row has to be one way's: to the right twice, though the other way would fit the third
        dueStood(lake + "mourner 6 0 0;", "lay 5 0;lay 6 0;lay 7 0;", 0, 0, NONE, 1);
        // a way with nobody aboard has a row, too
        dueStood(lake, "lay 5 0;lay 5 0;lay 6 0;", 0, 0, NONE, 2);
    }

    private static void nightsRefused() {
        Document.says("promise 21", "What 0: FITS,");
        GraveRegatta x = Bench.told("lake:mourner 1 0 0;", "lake:", "night:", "night:lay 1 1;");
        Bench.due("the first of both", x.stood(0, 0, 0), 5);
        Bench.due("the second lake", x.stood(1, 0, 0), 1);
        Bench.due("the second night", x.stood(0, 1, 0), 0);
        Document.says("promise 21", "-2: there is none such (of either), or for another what.");
        for (int wrong : new int[] {-1, -2, 2, 3, MOST, LEAST}) {
            Bench.due("LAKE " + wrong, x.stood(wrong, 0, 0), MISSING);
            Bench.due("NIGHT " + wrong, x.stood(0, wrong, 0), MISSING);
            int what = wrong == 2 || wrong == 3 ? wrong + 2 : wrong;
            Bench.due("what " + what, x.stood(0, 0, what), MISSING);
        }
        Bench.due("no LAKE", Bench.told("night:").stood(0, 0, 0), MISSING);
        Bench.due("no NIGHT", Bench.told("lake:").stood(0, 0, 0), MISSING);
        Bench.due("no second LAKE", night("", "").stood(1, 0, 0), MISSING);
        Bench.due("no second NIGHT", night("", "").stood(0, 1, 0), MISSING);
    }

    private static void cornersRefused() {
        Document.says("promise 22", "CORNER of a MOURNER, a PLACE (NONE: ashore).");
        GraveRegatta x = Bench.told("lake:raft 4 4;mourner 1 0 0;", "lake:raft 1 1;mourner 1 0 0;mourner 1 0 0;", "night:",
                "night:lay 1 1;");
        Bench.due("the last PLACE", x.corner(0, 0, 0, 15), 1);
        Bench.due("the second lake", x.corner(1, 0, 1, 0), 2);
        Bench.due("the second night", x.corner(0, 1, 0, NONE), 0);
        Document.says("promise 22", "NONE: there is none such (of any), or it is no corner.");
        for (int wrong : new int[] {-1, -2, 2, 3, 5, MOST, LEAST}) {
            Bench.due("LAKE " + wrong, x.corner(wrong, 0, 0, 0), NONE);
            Bench.due("NIGHT " + wrong, x.corner(0, wrong, 0, 0), NONE);
            Bench.due("MOURNER " + wrong, x.corner(0, 0, wrong, 0), NONE);
            Bench.due("MOURNER " + wrong + " ashore", x.corner(0, 0, wrong, NONE), NONE);
            if (wrong != NONE && wrong != 3) {
                Bench.due("PLACE " + wrong, x.corner(0, 0, 0, wrong), NONE);
            }
        }
        Bench.due("MOURNER 1 of one", x.corner(0, 0, 1, 0), NONE);
        Bench.due("PLACE 1", x.corner(0, 0, 0, 1), NONE);
        Bench.due("PLACE 16", x.corner(0, 0, 0, 16), NONE);
        Bench.due("PLACE 1 of one", x.corner(1, 0, 0, 1), NONE);
        Bench.due("nobody", night("", "").corner(0, 0, 0, NONE), NONE);
    }

    private static GraveRegatta fog(String text) {
        return Bench.told("fog:" + text);
    }

    private static void dueFog(String text, int ways, int dig, int[] sure, int[] may) {
        GraveRegatta x = fog(text);
        Bench.due("<" + text + "> WAYS", x.lies(0, 0), ways);
        Bench.due("<" + text + "> DIG", x.lies(0, 1), dig);
        for (int d = 0; d < sure.length; d++) {
            Bench.due("<" + text + "> SURE " + d, x.lies(0, 10 + d), sure[d]);
            Bench.due("<" + text + "> MAY " + d, x.lies(0, 20 + d), may[d]);
        }
    }

    private static void fogs() {
        says("Of a FOG: each of the DEAD lies in one of his GRAVES, no two in one.");
        dueFog("", 1, 0, new int[0], new int[0]);
        dueFog("dead 0;", 1, 0, new int[] {0}, new int[] {1});
        dueFog("dead 7;", 1, 0, new int[] {7}, new int[] {128});
        dueFog("dead 0;dead 0;", 0, NONE, new int[] {NONE, NONE}, new int[] {0, 0});
        dueFog("dead 0 1;dead 0 1;dead 0 1;", 0, NONE, new int[] {NONE, NONE, NONE}, new int[] {0, 0, 0});
        dueFog("dead 0 1;dead 0 1;", 2, 1, new int[] {NONE, NONE}, new int[] {3, 3});
        says("WAYS: how many;");
        String all = "dead 0 1 2 3 4 5 6 7;";
        int[] ways = {1, 8, 56, 336, 1680, 6720, 20160, 40320, 40320};
        for (int dead = 0; dead <= 8; dead++) {
            Bench.due(dead + " in eight", fog(all.repeat(dead)).lies(0, 0), ways[dead]);
        }
        Bench.due("eight in seven", fog("dead 0 1 2 3 4 5 6;".repeat(8)).lies(0, 0), 0);
    }

    private static void sure() {
        says("SURE of one of the DEAD: his GRAVE in all of these;");
        says("MAY: GRAVES (bits) in any.");
        // told two, but the other one has to lie in one of them
        dueFog("dead 0 1;dead 1;", 1, 0, new int[] {0, 1}, new int[] {1, 2});
        dueFog("dead 0 1;dead 0 1;dead 0 1 2;", 2, 1, new int[] {NONE, NONE, 2}, new int[] {3, 3, 4});
        dueFog("dead 6 7;dead 7;dead 5 6;", 1, 0, new int[] {6, 7, 5}, new int[] {64, 128, 32});
        dueFog("dead 0 7;", 2, 1, new int[] {NONE}, new int[] {129});
        // of eight the last
        dueFog("dead 0;dead 1;dead 2;dead 3;dead 4;dead 5;dead 6;dead 6 7;", 1, 0, new int[] {0, 1, 2, 3, 4, 5, 6, 7},
                new int[] {1, 2, 4, 8, 16, 32, 64, 128});
    }

    private static void digging() {
        says("DIG: the fewest GRAVES to be opened (of whom one learns who lies there, or nobody) so that, whatever one finds, all "
                + "is known: by sets of GRAVES;");
        String all = "dead 0 1 2 3 4 5 6 7;";
        int[] none = {};
        dueFog(all.repeat(8), 40320, 127, none, none);
        dueFog(all.repeat(7), 40320, 127, none, none);
        dueFog(all, 8, 127, none, none);
        // nobody there: he lies in the other
        dueFog("dead 6 7;", 2, 64, none, none);
        dueFog("dead 0 1;dead 1 2;dead 2 0;", 2, 1, none, none);
        dueFog("dead 0 1;dead 2 3;dead 4 5;dead 6 7;", 16, 85, none, none);
        says("the least such set (bits) of the fewest.");
        dueFog("dead 1 0;dead 0 1;", 2, 1, none, none);
        dueFog("dead 3 4 5;", 3, 24, none, none);
        // 0 alone leaves two ways open, 1 alone tells all three
        dueFog("dead 0 1;dead 1 2;", 3, 2, none, none);
        Document.says("promise 24", "What 0: WAYS, 1: DIG (bits; NONE without ways), 10 + d: SURE of one (NONE), 20 + d: MAY of one "
                + "(bits).");
        dueFog("dead 7;dead 7;", 0, NONE, new int[] {NONE, NONE}, new int[] {0, 0});
    }

    private static void fogsRefused() {
        Document.says("promise 24", "-2: there is none such, or for another what.");
        GraveRegatta x = Bench.told("fog:dead 1;dead 2;", "fog:dead 3;");
        Bench.due("the second FOG", x.lies(1, 10), 3);
        for (int wrong : new int[] {-1, -2, 2, 3, 9, 12, 17, 18, 19, 22, 28, 30, MOST, LEAST}) {
            Bench.due("what " + wrong, x.lies(0, wrong), MISSING);
            Bench.due("FOG " + wrong, x.lies(wrong, 0), MISSING);
        }
        Bench.due("the last SURE", x.lies(0, 11), 2);
        Bench.due("the last MAY", x.lies(0, 21), 4);
        Bench.due("no second one", x.lies(1, 11), MISSING);
        Bench.due("no second one", x.lies(1, 21), MISSING);
        Bench.due("no second FOG", fog("").lies(1, 0), MISSING);
        Bench.due("nobody", fog("").lies(0, 10), MISSING);
        Bench.due("nobody", fog("").lies(0, 20), MISSING);
    }

    /** The most WATER, and the row, of so many hours. */
    private static void dueBail(String lake, int most, int... row) {
        GraveRegatta x = Bench.told("lake:" + lake);
        Bench.due("<" + lake + "> BAIL " + row.length, x.bail(0, row.length, NONE), most);
        for (int k = 0; k < row.length; k++) {
            Bench.due("<" + lake + "> BAIL " + row.length + ", " + k, x.bail(0, row.length, k), row[k]);
        }
        Bench.due("<" + lake + "> BAIL " + row.length + ", beyond", x.bail(0, row.length, row.length), NONE);
    }

    private static void bailing() {
        says("BAIL: from LEAKS alone, no WATER at first: each HOUR each LEAK lets in its RATE, then one LEAK's WATER is bailed (all "
                + "of it; several on one PLACE are bailed each by itself):");
        dueBail("leak 0 9;", 9, 0);
        dueBail("leak 0 9;", 9, 0, 0, 0, 0, 0, 0, 0, 0);
        // nothing sinks, the raft's list is no matter
        dueBail("leak 0 9;float 1;grave 0 30;", 9, 0, 0);
        // four alike: 36, 63, 81, then 90 if each is bailed in its turn
        String four = "leak 0 9;leak 1 9;leak 2 9;leak 3 9;";
        dueBail(four, 36, 0);
        dueBail(four, 63, 0, 0);
        dueBail(four, 81, 0, 1, 0);
        dueBail(four, 90, 0, 1, 2, 0);
        dueBail(four, 90, 0, 1, 2, 3, 0);
        dueBail(four, 90, 0, 1, 2, 3, 0, 1, 2, 0);
        dueBail(four.replaceAll("leak .", "leak 5"), 90, 0, 1, 2, 3, 0, 1, 2, 0);
        says("by rows of n LEAKS, 1 .. 8, that by which the most WATER there is behind any HOUR's letting in is least;");
        dueBail("leak 0 1;leak 1 9;", 10, 0);
        dueBail("leak 0 1;leak 1 9;", 11, 1, 0);
        dueBail("leak 0 1;leak 1 9;", 12, 1, 1, 0);
        dueBail("leak 0 1;leak 1 9;", 17, 1, 1, 1, 1, 1, 1, 1, 0);
    }

    private static void bailingTies() {
        says("of several the first by rows: that most;");
        dueBail("leak 0 3;leak 1 2;", 5, 0);
        dueBail("leak 0 3;leak 1 2;", 7, 0, 0);
        dueBail("leak 0 3;leak 1 2;", 8, 0, 1, 0);
        dueBail("leak 0 2;leak 1 2;", 4, 0);
        dueBail("leak 0 2;leak 1 2;", 6, 0, 0);
        dueBail("leak 0 2;leak 1 2;", 6, 0, 1, 0);
        says("the k-th one.");
        GraveRegatta x = Bench.told("lake:leak 0 1;leak 1 9;");
        Bench.due("the first", x.bail(0, 3, 0), 1);
        Bench.due("the last", x.bail(0, 3, 2), 0);
    }

    private static void bailRefused() {
        Document.says("promise 25", "BAIL of n HOURS: the most WATER (k NONE), or the k-th LEAK bailed.");
        GraveRegatta x = Bench.told("lake:leak 0 9;", "lake:leak 0 4;leak 1 4;");
        Bench.due("of the first", x.bail(0, 8, NONE), 9);
        Bench.due("of the second", x.bail(1, 1, NONE), 8);
        Document.says("promise 25", "NONE: there are no LEAKS, there is none such (of either), or another n.");
        for (int n = 1; n <= 8; n++) {
            Bench.due("no LEAKS", Bench.told("lake:").bail(0, n, NONE), NONE);
            Bench.due("no LEAKS", Bench.told("lake:").bail(0, n, 0), NONE);
            Bench.due("the last of " + n, x.bail(0, n, n - 1), 0);
            Bench.due("beyond " + n, x.bail(0, n, n), NONE);
        }
        for (int wrong : new int[] {-1, -2, 9, 10, MOST, LEAST}) {
            Bench.due("n " + wrong, x.bail(0, wrong, NONE), NONE);
            Bench.due("n " + wrong, x.bail(0, wrong, 0), NONE);
            Bench.due("LAKE " + wrong, x.bail(wrong, 1, NONE), NONE);
            if (wrong != NONE) {
                Bench.due("k " + wrong, x.bail(0, 8, wrong), NONE);
            }
        }
        Bench.due("n 0", x.bail(0, 0, NONE), NONE);
        Bench.due("LAKE 2", x.bail(2, 1, NONE), NONE);
    }

    private static void dueMeet(String lake, String other, int meet, int beside) {
        GraveRegatta x = Bench.told("lake:" + lake, "lake:" + other);
        Bench.due("<" + lake + "> <" + other + "> MEET", x.meet(0, 1, false), meet);
        Bench.due("<" + lake + "> <" + other + "> SIDE BY SIDE", x.meet(0, 1, true), beside);
    }

    private static void meeting() {
        Document.says("term 5", "MEET of two LAKES: both RAFTS in the first one's (the second's ROCKS do not count), calm, nobody "
                + "aboard, no LEAKS:");
        String right = "lake 12 3;raft 2 1;grave 1 9;";
        dueMeet(right, "lake 12 12;raft 2 1;at 7 0;grave 0 9;", 3, 3);
        dueMeet(right, "lake 12 12;raft 2 1;at 8 0;grave 0 9;", 4, 3);
        // its rocks would stop it; the first one's do
        dueMeet(right, "lake 12 12;raft 2 1;at 7 0;grave 0 9;rock 6 0;rock 3 0;", 3, 3);
        dueMeet(right + "rock 4 0;", "lake 12 12;raft 2 1;at 7 0;grave 0 9;", NONE, NONE);
        dueMeet(right + "rock 4 1;", "lake 12 12;raft 2 1;at 7 0;grave 0 9;", 3, 3);
        // it may lie on the first one's rocks at first; from there it goes where none is
        dueMeet(right + "rock 8 0;", "lake 12 12;raft 2 1;at 7 0;grave 0 9;", 3, 3);
        dueMeet(right + "rock 7 0;", "lake 12 12;raft 2 1;at 7 0;grave 0 9;", NONE, 5);
        // neither wreaths nor mourners nor leaks stir it
        String still = "raft 2 1;at 3 3;leak 0 9;float 1;wreath 9;drag 1;mourner 6 0 0;";
        dueMeet(still, still.replace("3 3", "6 3"), NONE, NONE);
        dueMeet(still, still.replace("3 3", "6 3") + "grave 0 9;", 2, 1);
        dueMeet(still + "grave 1 9;", still.replace("3 3", "6 3"), 2, 1);
        Document.says("term 5", "HOUR by HOUR the first RAFT drifts, then the second (each by its own STIFF and LIST; the other one "
                + "is no ROCK):");
        String stiff = "raft 2 1;stiff 9;grave 1 9;";
        dueMeet(stiff, "raft 2 1;at 4 0;stiff 8;grave 0 9;", 3, 2);
        dueMeet(stiff.replace("stiff 9", "stiff 8"), "raft 2 1;at 4 0;stiff 9;grave 0 9;", 3, 2);
        dueMeet(stiff, "raft 2 1;at 4 0;stiff 9;grave 0 9;", NONE, NONE);
        // through one another: they meet, and do not stop
        dueMeet(right, "lake 12 3;raft 4 1;at 3 0;grave 0 9;stiff 0;", 1, 1);
    }

    private static void meetingByHours() {
        Document.says("term 5", "the fewest HOURS, 0 .. 40, by which they have a CELL in common;");
        dueMeet("", "", 0, 0);
        dueMeet("raft 2 2;", "raft 2 2;at 1 1;", 0, 0);
        dueMeet("raft 2 2;", "raft 2 2;at 2 1;", NONE, 0);
        dueMeet("raft 2 2;at 2 2;", "raft 1 1;at 3 3;", 0, 0);
        dueMeet("raft 1 1;at 3 3;", "raft 4 4;", 0, 0);
        dueMeet("raft 1 1;at 3 3;", "raft 3 4;", NONE, 0);
        dueMeet("raft 1 1;at 0 0;", "raft 4 4;", 0, 0);
        // behind one or the other; as late as the lake is long
        dueMeet("lake 12 2;raft 2 1;grave 1 9;", "lake 12 2;raft 1 1;at 11 0;", 10, 9);
        dueMeet("lake 12 2;raft 2 1;", "lake 12 2;raft 2 1;at 10 0;grave 0 9;", 9, 8);
        GraveRegatta x = Bench.told("lake:raft 2 2;at 3 3;grave 0 9;");
        Bench.due("with itself", x.meet(0, 0, false), 0);
        Bench.due("with itself", x.meet(0, 0, true), 0);
        Document.says("promise 27", "NONE: not in 40 HOURS,");
        dueMeet("", "at 5 6;", NONE, NONE);
        dueMeet("raft 2 1;grave 1 9;", "raft 2 1;at 0 7;grave 1 9;", NONE, NONE);
    }

    private static void beside() {
        Document.says("term 5", "SIDE BY SIDE: a CELL of one is next to one of the other (or in common).");
        for (int x = 0; x <= 6; x++) {
            for (int y = 0; y <= 6; y++) {
                boolean isCommon = x >= 2 && x <= 4 && y >= 2 && y <= 4;
                boolean isNext = x >= 2 && x <= 4 && y >= 1 && y <= 5 || y >= 2 && y <= 4 && x >= 1 && x <= 5;
                dueMeet("raft 2 2;at 3 3;", "raft 2 2;at " + x + " " + y + ";", isCommon ? 0 : NONE, isNext ? 0 : NONE);
            }
        }
        dueMeet("raft 1 1;at 3 3;", "raft 1 1;at 4 4;", NONE, NONE);
        dueMeet("raft 1 1;at 3 3;", "raft 1 1;at 3 4;", NONE, 0);
        dueMeet("raft 4 1;at 0 3;", "raft 1 4;at 4 0;", NONE, 0);
        // rafts of other shapes, each above, below, left and right of the other
        dueMeet("raft 1 3;at 4 4;", "raft 4 1;at 3 7;", NONE, 0);
        dueMeet("raft 1 3;at 4 4;", "raft 4 1;at 3 6;", 0, 0);
        dueMeet("raft 1 3;at 4 4;", "raft 4 1;at 3 3;", NONE, 0);
        dueMeet("raft 1 3;at 4 4;", "raft 4 1;at 3 2;", NONE, NONE);
        dueMeet("raft 4 1;at 3 3;", "raft 1 3;at 4 4;", NONE, 0);
        dueMeet("raft 4 1;at 3 3;", "raft 1 3;at 4 1;", 0, 0);
        dueMeet("raft 4 1;at 3 3;", "raft 1 3;at 4 0;", NONE, 0);
        dueMeet("raft 4 1;at 3 5;", "raft 1 3;at 4 1;", NONE, NONE);
        dueMeet("raft 4 1;at 3 5;", "raft 1 3;at 7 4;", NONE, 0);
        dueMeet("raft 4 1;at 3 5;", "raft 1 3;at 2 4;", NONE, 0);
        dueMeet("raft 1 2;lake 2 12;grave 1 9;", "raft 1 2;lake 2 12;at 0 7;grave 0 9;", 3, 3);
        dueMeet("raft 1 2;lake 2 12;grave 1 9;", "raft 1 2;lake 2 12;at 0 8;grave 0 9;", 4, 3);
    }

    private static void meetRefused() {
        Document.says("promise 27", "MEET, or (beside) SIDE BY SIDE.");
        GraveRegatta x = Bench.told("lake:lake 4 3;raft 1 1;at 0 0;", "lake:lake 12 12;raft 2 2;at 1 0;");
        Bench.due("the second one is just in it", x.meet(0, 1, true), 0);
        Bench.due("the second one is just in it", x.meet(0, 1, false), NONE);
        Document.says("promise 27", "the second RAFT is not all in the first LAKE, or there is none such (of either).");
        dueMeet("lake 4 3;raft 1 1;at 3 2;", "lake 12 12;raft 2 2;at 2 1;", 0, 0);
        dueMeet("lake 4 3;raft 1 1;at 3 2;", "lake 12 12;raft 2 2;at 3 1;", NONE, NONE);
        dueMeet("lake 4 3;raft 1 1;at 3 2;", "lake 12 12;raft 2 2;at 2 2;", NONE, NONE);
        dueMeet("lake 4 3;raft 1 1;at 3 2;", "lake 12 12;raft 2 2;at 10 10;", NONE, NONE);
        // the first one need not be in the second lake
        dueMeet("lake 12 12;raft 2 2;at 10 10;", "lake 4 3;raft 1 1;at 3 2;", NONE, NONE);
        dueMeet("lake 12 12;raft 2 2;at 10 10;grave 0 9;", "lake 4 3;raft 1 1;at 3 2;", 8, 7);
        dueMeet("lake 12 12;raft 2 1;at 10 2;grave 0 9;", "lake 4 3;raft 1 1;at 3 2;", 7, 6);
        for (int wrong : new int[] {-1, -2, 2, 3, MOST, LEAST}) {
            Bench.due("first LAKE " + wrong, x.meet(wrong, 0, false), NONE);
            Bench.due("second LAKE " + wrong, x.meet(0, wrong, true), NONE);
            Bench.due("both " + wrong, x.meet(wrong, wrong, true), NONE);
        }
        x = Bench.told("lake:");
        Bench.due("no second LAKE", x.meet(0, 1, false), NONE);
        Bench.due("no second LAKE", x.meet(1, 0, true), NONE);
    }

    /** The document's numbers, by numbers that have no bits. */
    private static int[] drawnByHand(int seed, int n) {
        BigInteger all = BigInteger.TWO.pow(32);
        BigInteger x = BigInteger.valueOf(seed).mod(all);
        int atX = 5;
        int atY = 6;
        int touched = 0;
        int aground = 0;
        for (int h = 0; h < n; h++) {
            x = x.multiply(BigInteger.valueOf(1103515245)).add(BigInteger.valueOf(12345)).mod(all);
            int way = x.divide(BigInteger.valueOf(65536)).mod(BigInteger.valueOf(5)).intValue();
            if (way == 4) {
                touched |= sides(atX, atY);
                continue;
            }
            x = x.multiply(BigInteger.valueOf(1103515245)).add(BigInteger.valueOf(12345)).mod(all);
            int force = x.divide(BigInteger.valueOf(65536)).mod(BigInteger.valueOf(9)).intValue() + 1;
            // one wreath of size 1, drag 4
            if (force >= 4) {
                int nextX = atX + (way == 1 ? 1 : way == 3 ? -1 : 0);
                int nextY = atY + (way == 2 ? 1 : way == 0 ? -1 : 0);
                boolean isIn = nextX >= 0 && nextX < 9 && nextY >= 0 && nextY < 8;
                aground += isIn ? 0 : 1;
                atX = isIn ? nextX : atX;
                atY = isIn ? nextY : atY;
            }
            touched |= sides(atX, atY);
        }
        return new int[] {atX, atY, touched, aground, 0};
    }

    private static int sides(int x, int y) {
        return (y == 0 ? 1 : 0) + (x == 8 ? 2 : 0) + (y == 7 ? 4 : 0) + (x == 0 ? 8 : 0);
    }

    private static void drawing() {
        Document.says("term 5", "DRAWN by a SEED, x; a number below n is drawn: x becomes x * 1103515245 + 12345 (of 32 bits), it is x "
                + "shifted right by 16 without sign, remainder by n: n HOURS: a number below 5: the WIND's WAY, or (4) calm;");
        Document.says("term 5", "if none is calm a number below 9, and 1: its FORCE;");
        for (int seed : new int[] {0, 1, -1, 2, -2, 12345, 65535, 65536, 1 << 30, MOST, MOST - 1, LEAST, LEAST + 1, 987654321,
            -987654321}) {
            GraveRegatta x = Bench.told("lake:lake 9 8;raft 1 1;at 5 6;wreath 1;drag 4;");
            for (int n : new int[] {1, 2, 3, 5, 8, 13, 21, 34, 39, 40}) {
                int[] want = drawnByHand(seed, n);
                for (int what = 0; what < 5; what++) {
                    Bench.due("seed " + seed + ", " + n + " hours, what " + what, x.drawn(0, seed, n, what), want[what]);
                }
            }
        }
    }

    private static void drawingLeaks() {
        Document.says("term 5", "then the HOUR, nobody aboard, with LEAKS.");
        // no wreath: it leans by its water, from the second hour on, and sinks by the fifth
        GraveRegatta x = Bench.told("lake:raft 2 1;lake 12 2;at 4 0;leak 1 6;float 24;mourner 6 0 0;");
        int[] at = {4, 5, 6, 7, 8, 8, 8};
        for (int n = 1; n <= 7; n++) {
            Bench.due("X behind " + n, x.drawn(0, 77, n, 0), at[n - 1]);
            Bench.due("SUNK behind " + n, x.drawn(0, 77, n, 4), n >= 5 ? 1 : 0);
        }
        Bench.due("SUNK behind 40", x.drawn(0, 77, 40, 0), 8);
        Bench.due("as much as FLOAT", Bench.told("lake:raft 1 1;leak 0 1;float 40;").drawn(0, 5, 40, 4), 0);
        Bench.due("above FLOAT", Bench.told("lake:raft 1 1;leak 0 1;float 39;").drawn(0, 5, 40, 4), 1);
        Bench.due("not yet", Bench.told("lake:raft 1 1;leak 0 1;float 39;").drawn(0, 5, 39, 4), 0);
        // where it lay at first is touched, too
        x = Bench.told("lake:raft 2 1;lake 12 3;at 0 0;grave 1 9;");
        Bench.due("TOUCHED", x.drawn(0, 3, 1, 2), 9);
        Bench.due("X", x.drawn(0, 3, 10, 0), 10);
        Bench.due("TOUCHED", x.drawn(0, 3, 10, 2), 11);
        Bench.due("AGROUND", x.drawn(0, 3, 10, 3), 0);
        Bench.due("AGROUND", x.drawn(0, 3, 40, 3), 30);
    }

    private static void drawnRefused() {
        Document.says("promise 28", "DRAWN, n HOURS, 1 .. 40, what 0: X, 1: Y, 2: TOUCHED (bits), 3: AGROUND, 4: 1 if SUNK, else 0.");
        GraveRegatta x = Bench.told("lake:raft 2 1;lake 12 3;at 0 0;grave 1 9;", "lake:raft 1 1;at 3 4;");
        Bench.due("of the first", x.drawn(0, 3, 1, 0), 1);
        Bench.due("of the second", x.drawn(1, 3, 40, 0), 3);
        Bench.due("of the second", x.drawn(1, 3, 40, 1), 4);
        Document.says("promise 28", "-2: there is none such, another n, or for another what.");
        for (int wrong : new int[] {-1, -2, 41, 42, MOST, LEAST}) {
            Bench.due("n " + wrong, x.drawn(0, 1, wrong, 0), MISSING);
            Bench.due("what " + wrong, x.drawn(0, 1, 1, wrong), MISSING);
            Bench.due("LAKE " + wrong, x.drawn(wrong, 1, 1, 0), MISSING);
        }
        Bench.due("n 0", x.drawn(0, 1, 0, 0), MISSING);
        Bench.due("what 5", x.drawn(0, 1, 1, 5), MISSING);
        Bench.due("LAKE 2", x.drawn(2, 1, 1, 0), MISSING);
        Bench.due("LAKE 1", Bench.told("lake:").drawn(1, 1, 1, 0), MISSING);
    }

    private static void dueTrim(String lake, int what, int want) {
        Bench.due("<" + lake + "> trim " + what, Bench.told("lake:" + lake).trim(0, what), want);
    }

    private static void trimming() {
        Document.says("term 6", "TRIM: the PLACE on which MOURNER m alone makes the sizes of both LISTS together least;");
        // 3 by 2: without graves the middle column, on row 0; a grave there, the other row
        dueTrim("mourner 6 0 0;grave 1 6;", 10, 4);
        dueTrim("mourner 6 0 0;grave 4 6;", 10, 1);
        dueTrim("mourner 6 0 0;grave 0 6;", 10, 5);
        dueTrim("mourner 6 0 0;grave 5 6;", 10, 0);
        dueTrim("mourner 6 0 0;grave 2 6;", 10, 3);
        // each alone, by his own weight: 3 on the first column evens what 6 would tip over
        dueTrim("raft 3 1;mourner 6 0 0;mourner 3 0 0;grave 2 2;", 10, 1);
        dueTrim("raft 3 1;mourner 6 0 0;mourner 3 0 0;grave 2 2;", 11, 0);
        dueTrim("raft 4 4;grave 0 30;" + "mourner 6 0 0;".repeat(5), 14, 15);
        // on the last row, though a further one would be better still
        dueTrim("raft 2 2;mourner 6 0 0;grave 0 30;grave 1 30;", 10, 2);
        dueTrim("raft 2 1;mourner 6 0 0;grave 0 30;", 10, 1);
        dueTrim("raft 1 2;mourner 6 0 0;grave 0 30;", 10, 1);
        Document.says("term 6", "of several the least.");
        dueTrim("mourner 6 0 0;", 10, 1);
        dueTrim("raft 2 2;mourner 6 0 0;", 10, 0);
        dueTrim("raft 1 1;mourner 6 0 0;grave 0 9;", 10, 0);
        dueTrim("raft 3 3;mourner 6 0 0;", 10, 4);
        dueTrim("raft 4 1;mourner 6 0 0;", 10, 1);
        dueTrim("raft 1 4;mourner 6 0 0;", 10, 1);
        dueTrim("raft 2 2;mourner 6 0 0;grave 0 6;grave 1 6;", 10, 2);
    }

    private static void heaviest() {
        Document.says("term 6", "HEAVIEST: the row and the column of most WEIGHT of GRAVES.");
        Document.says("promise 29", "What 0, 1: HEAVIEST row, column (of several the least),");
        String[] graves = {"", "grave 5 1;", "grave 2 1;", "grave 3 1;", "grave 0 5;grave 5 5;", "grave 0 5;grave 5 6;",
            "grave 1 5;grave 4 5;grave 5 9;", "grave 1 5;grave 4 5;grave 5 10;", "grave 0 3;grave 1 3;grave 5 5;"};
        int[] rows = {0, 1, 0, 1, 0, 1, 1, 1, 0};
        int[] columns = {0, 2, 2, 0, 0, 2, 1, 1, 2};
        for (int k = 0; k < graves.length; k++) {
            dueTrim(graves[k] + "mourner 6 0 0;leak 0 9;", 0, rows[k]);
            dueTrim(graves[k] + "mourner 6 0 0;leak 0 9;", 1, columns[k]);
        }
        dueTrim("raft 4 4;grave 15 1;", 0, 3);
        dueTrim("raft 4 4;grave 15 1;", 1, 3);
        dueTrim("raft 4 4;grave 12 2;grave 3 1;", 0, 3);
        dueTrim("raft 4 4;grave 12 2;grave 3 1;", 1, 0);
        dueTrim("raft 1 1;grave 0 1;", 1, 0);
    }

    private static void keels() {
        Document.says("term 6", "KEEL: the GRAVE without which the sizes of both LISTS together are least; of several the least.");
        dueTrim("grave 0 1;", 2, 0);
        dueTrim("grave 0 1;grave 0 2;", 2, 1);
        dueTrim("grave 0 2;grave 0 1;", 2, 0);
        dueTrim("grave 0 2;grave 0 2;", 2, 0);
        dueTrim("raft 2 1;grave 0 9;grave 1 9;grave 1 4;", 2, 2);
        dueTrim("raft 2 1;grave 0 9;grave 1 9;", 2, 0);
        // to the other side counts by its size
        dueTrim("raft 2 1;grave 0 5;grave 1 9;grave 1 1;", 2, 1);
        dueTrim("raft 1 1;grave 0 1;grave 0 30;", 2, 0);
        dueTrim("grave 0 1;".repeat(11) + "grave 0 2;", 2, 11);
        Document.says("promise 29", "2: KEEL (NONE without GRAVES),");
        dueTrim("", 2, NONE);
        dueTrim("mourner 6 0 0;", 2, NONE);
    }

    private static void trimRefused() {
        Document.says("promise 29", "10 + m: TRIM of a MOURNER.");
        GraveRegatta x = Bench.told("lake:" + "mourner 1 0 0;".repeat(5), "lake:mourner 1 0 0;grave 5 30;");
        Bench.due("the first", x.trim(0, 10), 1);
        Bench.due("the last", x.trim(0, 14), 1);
        Bench.due("the second lake", x.trim(1, 10), 0);
        Document.says("promise 29", "NONE: there is none such, or for another what.");
        for (int wrong : new int[] {-1, -2, 3, 9, 15, 16, 20, MOST, LEAST}) {
            Bench.due("what " + wrong, x.trim(0, wrong), NONE);
            Bench.due("LAKE " + wrong, x.trim(wrong, 0), NONE);
        }
        Bench.due("LAKE 2", x.trim(2, 0), NONE);
        Bench.due("no second MOURNER", x.trim(1, 11), NONE);
        Bench.due("nobody", Bench.told("lake:").trim(0, 10), NONE);
        Document.says("term 6", "`NONE = -1`: There is none.");
        Bench.due("NONE", GraveRegatta.NONE, -1);
    }
}
