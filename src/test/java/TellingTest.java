/** Promises 1 to 7, 20, 23, 26, 30 to 32: the tape, the texts, what is told, images. */
final class TellingTest {
    private static final int NONE = GraveRegatta.NONE;
    private static final int LAKE = 0;
    private static final int DAY = 1;
    private static final int NIGHT = 2;
    private static final int FOG = 3;
    private static final int LAW = 4;

    private TellingTest() {
    }

    static void run() {
        newObject();
        feeding();
        ending();
        texting();
        lakes();
        deeds();
        sightsDeadTerms();
        tokens();
        numbersThatCannotBe();
        tooMany();
        wholeLake();
        images();
    }

    private static void newObject() {
        GraveRegatta x = new GraveRegatta();
        for (int sort = 0; sort < 5; sort++) {
            Bench.due("1: count " + sort, x.count(sort), 0);
        }
        Bench.due("30: count below", x.count(-1), -2);
        Bench.due("30: count above", x.count(5), -2);
        Bench.due("30: count far above", x.count(Integer.MAX_VALUE), -2);
        Bench.due("1: lake", x.lake(0, 0), NONE);
        Bench.due("1: deed", x.deed(0, NONE, 0), -2);
        Bench.due("1: sight", x.sight(0, NONE, 0), -2);
        Bench.due("1: dead", x.dead(0, NONE), -2);
        Bench.due("1: term", x.term(0, NONE, 0), -2);
        Bench.due("1: tape", x.end(1), NONE);
        Bench.due("1: fault", x.fault(0), 0);
        Bench.due("1: its place", x.fault(1), NONE);
        for (int k = -1; k < 4; k++) {
            Bench.due("1: again " + k, x.again(k), false);
        }
    }

    private static void feeding() {
        GraveRegatta x = new GraveRegatta();
        for (int k = 1; k <= 30; k++) {
            Bench.due("2: feed " + k, x.feed(0x20202020, 0x0a0a0a0a, 0x20202020, 0x20202020, 0x20202020), 20 * k);
        }
        Bench.due("2: feed over 600", x.feed(0, 0, 0, 0, 0), NONE);
        Bench.due("2: nothing came", x.end(600), 600);
        Bench.due("2: nothing came", x.end(601), NONE);
        x.end(581);
        Bench.due("2: feed over 600 from 581", x.feed(0, 0, 0, 0, 0), NONE);
        x.end(580);
        Bench.due("2: feed to 600", x.feed(0x6d6f6f72, 0x3b202020, 0x20202020, 0x20202020, 0x2020200a), 600);
        Bench.due("2: 600 bytes are a text", x.text(DAY, NONE), 0);
        Bench.due("2: the highest byte first", x.deed(0, 0, 0), 6);
        // "calm;" in the bytes 17 .. 21, and bytes above 127 are themselves
        x.feed(0x20202020, 0x20202020, 0x20202020, 0x20202020, 0x2063616c);
        x.feed(0x6d3be963, 0, 0, 0, 0);
        x.end(23);
        Bench.due("2: byte 233", x.text(DAY, NONE), NONE);
        Bench.due("2: byte 233", x.fault(1), 22);
    }

    private static void ending() {
        GraveRegatta x = new GraveRegatta();
        Bench.due("3: end of nothing", x.end(0), 0);
        Bench.due("3: end of nothing", x.end(1), NONE);
        x.feed(0x63616c6d, 0x3b63616c, 0x6d3b6361, 0x6c6d3b00, 0);
        Bench.due("3: too much", x.end(21), NONE);
        Bench.due("3: below 0", x.end(-1), NONE);
        Bench.due("3: far below 0", x.end(Integer.MIN_VALUE), NONE);
        Bench.due("3: all", x.end(20), 20);
        Bench.due("3: less", x.end(10), 10);
        Bench.due("3: more than is left", x.end(11), NONE);
        Bench.due("3: feeding goes on behind the end", x.feed(0x63616c6d, 0x3b000000, 0, 0, 0), 30);
        x.end(15);
        Bench.due("3: the text", x.text(DAY, NONE), 0);
        Bench.due("3: the text's deeds", x.deed(0, NONE, 0), 3);
        Bench.due("4: the tape is empty behind a text", x.end(1), NONE);
    }

    private static void texting() {
        for (int sort = 0; sort < 5; sort++) {
            GraveRegatta x = new GraveRegatta();
            String name = "4: sort " + sort;
            Bench.due(name + " in the place of none", x.text(sort, 0), -2);
            Bench.due(name + " below", x.text(sort, -2), -2);
            Bench.due(name + " first", x.text(sort, NONE), 0);
            Bench.due(name + " in the place of none", x.text(sort, 1), -2);
            Bench.due(name + " second", x.text(sort, NONE), 1);
            Bench.due(name + " in its place", x.text(sort, 1), 1);
            Bench.due(name + " in its place", x.text(sort, 0), 0);
            Bench.due(name + " in the place of none", x.text(sort, 2), -2);
            Bench.due(name + " count", x.count(sort), 2);
            Bench.tape(x, "??");
            Bench.due(name + " too many", x.text(sort, NONE), -2);
            Bench.due(name + " too many: no fault", x.fault(0), 0);
            Bench.due(name + " too many: no place", x.fault(1), NONE);
            Bench.due(name + " too many: the tape is empty", x.end(1), NONE);
            Bench.tape(x, " ?");
            Bench.due(name + " fault", x.text(sort, 1), NONE);
            Bench.due(name + " fault", x.fault(0), 1);
            Bench.due(name + " fault's place", x.fault(1), 1);
            Bench.due("5: another what", x.fault(2), NONE);
            Bench.due("5: another what", x.fault(-1), NONE);
            Bench.due(name + " fault: the tape is empty", x.end(1), NONE);
            Bench.due(name + " no fault any more", x.text(sort, 1), 1);
            Bench.due(name + " no fault any more", x.fault(0), 0);
            Bench.due(name + " no fault any more", x.fault(1), NONE);
        }
        GraveRegatta x = new GraveRegatta();
        Bench.tape(x, "?");
        x.text(LAKE, NONE);
        Bench.tape(x, "?");
        Bench.due("4: no such sort", x.text(5, NONE), -2);
        Bench.due("4: no such sort: fault 0", x.fault(0), 0);
        Bench.due("4: no such sort: the tape is empty", x.end(1), NONE);
        Bench.due("4: no such sort", x.text(-1, NONE), -2);
        Bench.due("4: no such sort", x.text(-1, 0), -2);
        Bench.due("4: a fault takes no number", x.count(LAKE), 0);
        Bench.tell(x, LAKE, NONE, "stiff 7;rock 7 7;");
        Bench.tell(x, LAKE, 0, "stiff 8;stiff 100;");
        Bench.due("4: a fault changes nothing", x.lake(0, 6), 7);
        Bench.tell(x, LAKE, 0, "drag 8;");
        Bench.due("4: a text in the place of one has nothing of it", x.lake(0, 6), 5);
        Bench.due("4: a text in the place of one has nothing of it", x.lake(0, 11), 0);
    }

    private static void lakes() {
        GraveRegatta x = Bench.told("lake:");
        int[] atFirst = {8, 8, 3, 2, 0, 0, 5, 4, 40, 1, 3, 0, 0, 0, 0, 0};
        for (int what = 0; what < 16; what++) {
            Bench.due("6: at first " + what, x.lake(0, what), atFirst[what]);
        }
        String all = "lake 12 2;raft 4 1;at 8 1;stiff 99;drag 1;float 99;brothers 0 2;rock 11 0;rock 11 0;grave 3 30;"
                + "grave 0 1;wreath 9;wreath 1;mourner 6 9 1;mourner 1 0 0;leak 3 9;leak 0 1;";
        x = Bench.told("lake:", "lake:" + all);
        int[] told = {12, 2, 4, 1, 8, 1, 99, 1, 99, 0, 2, 2, 2, 2, 2, 2};
        for (int what = -1; what < 20; what++) {
            Bench.due("6: told " + what, x.lake(1, what), what >= 0 && what < 16 ? told[what] : NONE);
        }
        int[][] things = {{20, 11}, {21, 11}, {22, NONE}, {39, NONE}, {40, 0}, {41, 0}, {42, NONE}, {60, 3}, {61, 0},
            {62, NONE}, {80, 30}, {81, 1}, {82, NONE}, {100, 9}, {101, 1}, {102, NONE}, {110, 6}, {111, 1}, {112, NONE},
            {120, 9}, {121, 0}, {122, NONE}, {130, 1}, {131, 0}, {132, NONE}, {140, 3}, {141, 0}, {142, NONE}, {150, 9},
            {151, 1}, {152, NONE}, {160, NONE}, {Integer.MAX_VALUE, NONE}, {Integer.MIN_VALUE, NONE}};
        for (int[] thing : things) {
            Bench.due("6: told " + thing[0], x.lake(1, thing[0]), thing[1]);
        }
        Bench.due("6: no such lake", x.lake(2, 0), NONE);
        Bench.due("6: no such lake", x.lake(-1, 0), NONE);
        Bench.due("6: the other lake", x.lake(0, 0), 8);
        x = Bench.told("lake:raft 2 2;raft 1 4;stiff 1;stiff 2;at 1 1;at 2 2;brothers 0 1;brothers 2 0;");
        Bench.due("6: later ones strike", x.lake(0, 3), 4);
        Bench.due("6: later ones strike", x.lake(0, 6), 2);
        Bench.due("6: later ones strike", x.lake(0, 4), 2);
        Bench.due("6: later ones strike", x.lake(0, 10), 0);
    }

    private static void deeds() {
        GraveRegatta x = Bench.told("day:stand 4 15;leave 3;wind 2 9;calm;frost;thaw;moor;cast;bail 15;hours 9;", "day:");
        int[][] want = {{0, 4, 15}, {1, 3, NONE}, {2, 2, 9}, {3, NONE, NONE}, {4, NONE, NONE}, {5, NONE, NONE},
            {6, NONE, NONE}, {7, NONE, NONE}, {8, 15, NONE}, {9, 9, NONE}};
        for (int k = 0; k < want.length; k++) {
            for (int what = 0; what < 3; what++) {
                Bench.due("7: deed " + k + " " + what, x.deed(0, k, what), want[k][what]);
            }
            Bench.due("7: another what", x.deed(0, k, 3), -2);
            Bench.due("7: another what", x.deed(0, k, -1), -2);
        }
        Bench.due("7: how many", x.deed(0, NONE, 0), 10);
        Bench.due("7: how many", x.deed(1, NONE, 0), 0);
        Bench.due("7: how many, another what", x.deed(0, NONE, 1), -2);
        Bench.due("7: no such deed", x.deed(0, 10, 0), -2);
        Bench.due("7: no such deed", x.deed(0, -2, 0), -2);
        Bench.due("7: no such deed", x.deed(1, 0, 0), -2);
        Bench.due("7: no such day", x.deed(2, NONE, 0), -2);
        Bench.due("7: no such day", x.deed(-1, 0, 0), -2);
    }

    private static void sightsDeadTerms() {
        GraveRegatta x = Bench.told("night:lay 11 0;lay 0 7;", "fog:dead 7;dead 0 3 1;",
                "law:grave 9;list 999 99;touch 3 0;water 0;odd 99;most 999;");
        Bench.due("20: how many", x.sight(0, NONE, 0), 2);
        Bench.due("20: x", x.sight(0, 0, 0), 11);
        Bench.due("20: y", x.sight(0, 1, 1), 7);
        Bench.due("20: another what", x.sight(0, 1, 2), -2);
        Bench.due("20: another what", x.sight(0, NONE, 1), -2);
        Bench.due("20: no such sight", x.sight(0, 2, 0), -2);
        Bench.due("20: no such night", x.sight(1, 0, 0), -2);
        Bench.due("23: how many", x.dead(0, NONE), 2);
        Bench.due("23: graves", x.dead(0, 0), 128);
        Bench.due("23: graves", x.dead(0, 1), 11);
        Bench.due("23: no such one", x.dead(0, 2), -2);
        Bench.due("23: no such one", x.dead(0, -2), -2);
        Bench.due("23: no such fog", x.dead(1, NONE), -2);
        int[][] want = {{0, 9, NONE}, {1, 999, 99}, {2, 3, 0}, {3, 0, NONE}, {4, 99, NONE}, {5, 999, NONE}};
        for (int k = 0; k < want.length; k++) {
            for (int what = 0; what < 3; what++) {
                Bench.due("26: term " + k + " " + what, x.term(0, k, what), want[k][what]);
            }
        }
        Bench.due("26: how many", x.term(0, NONE, 0), 6);
        Bench.due("26: another what", x.term(0, NONE, 2), -2);
        Bench.due("26: another what", x.term(0, 0, 3), -2);
        Bench.due("26: no such term", x.term(0, 6, 0), -2);
        Bench.due("26: no such law", x.term(1, 0, 0), -2);
    }

    private static void tokens() {
        Bench.dueFault(LAKE, "", 0, -1);
        Bench.dueFault(LAKE, " \n ", 0, -1);
        Bench.dueFault(LAKE, "raft2 2;at1 1;", 0, -1);
        Bench.dueFault(LAKE, "\nraft\n2 002\n;\n", 0, -1);
        Bench.dueFault(LAKE, "raft 2", 1, 6);
        Bench.dueFault(LAKE, "raft 2 2", 1, 8);
        Bench.dueFault(LAKE, "raft 2 2 \n", 1, 10);
        Bench.dueFault(LAKE, "raft 2 2 2;", 1, 9);
        Bench.dueFault(LAKE, "raft 2;", 1, 6);
        Bench.dueFault(LAKE, "raft 2 x;", 1, 7);
        Bench.dueFault(LAKE, "rafts 2 2;", 1, 0);
        Bench.dueFault(LAKE, "raf 2 2;", 1, 0);
        Bench.dueFault(LAKE, "Raft 2 2;", 1, 0);
        Bench.dueFault(LAKE, "raft 2 2;;", 1, 9);
        Bench.dueFault(LAKE, "raft 0002 2;", 1, 5);
        Bench.dueFault(LAKE, "raft\t2 2;", 1, 4);
        Bench.dueFault(LAKE, "raft 9 9;raft 2 2", 1, 17);
        Bench.dueFault(LAKE, "grave 1 1;hours 2;", 1, 10);
        Bench.dueFault(DAY, "calmz;", 1, 0);
        Bench.dueFault(DAY, "calma;", 1, 0);
        Bench.dueFault(DAY, "calm{;", 1, 4);
        Bench.dueFault(DAY, "calm`;", 1, 4);
        Bench.dueFault(DAY, "hours 1/;", 1, 7);
        Bench.dueFault(DAY, "hours 1:;", 1, 7);
        Bench.dueFault(DAY, "lay 1 1;", 1, 0);
        Bench.dueFault(DAY, "moor 1;", 1, 5);
        Bench.dueFault(NIGHT, "lay 1 1;dead 1;", 1, 8);
        Bench.dueFault(FOG, "dead;", 1, 4);
        Bench.dueFault(FOG, "dead 1 2 3 4;", 0, -1);
        Bench.dueFault(FOG, "dead 1 2 3 dead", 1, 11);
        Bench.dueFault(FOG, "dead 0 1 2 3 4 5 6 7;", 0, -1);
        Bench.dueFault(LAW, "list 9;", 1, 6);
        Bench.dueFault(LAW, "grave 1 1;", 1, 8);
    }

    private static void numbersThatCannotBe() {
        String[][] lines = {
            {"lake", "2 12", "2 12"}, {"raft", "1 4", "1 4"}, {"at", "0 11", "0 11"}, {"stiff", "0 99"}, {"drag", "1 99"},
            {"float", "1 99"}, {"rock", "0 11", "0 11"}, {"grave", "0 15", "1 30"}, {"wreath", "1 9"},
            {"mourner", "1 6", "0 9", "0 1"}, {"leak", "0 15", "1 9"}, {"brothers", "0 3", "0 3"}};
        bounds(LAKE, lines);
        bounds(DAY, new String[][] {{"stand", "0 4", "0 15"}, {"leave", "0 4"}, {"wind", "0 3", "1 9"}, {"bail", "0 15"},
            {"hours", "1 9"}});
        bounds(NIGHT, new String[][] {{"lay", "0 11", "0 11"}});
        bounds(FOG, new String[][] {{"dead", "0 7"}});
        bounds(LAW, new String[][] {{"grave", "0 9"}, {"list", "0 999", "0 99"}, {"touch", "0 3", "0 99"}, {"water", "0 9"},
            {"odd", "0 99"}, {"most", "0 999"}});
        Bench.dueFault(LAKE, "brothers 2 2;", 2, 11);
        Bench.dueFault(LAKE, "brothers 4 4;", 2, 9);
        Bench.dueFault(FOG, "dead 3 4 3;", 2, 9);
        Bench.dueFault(FOG, "dead 3 4 8 3;", 2, 9);
        Bench.dueFault(FOG, "dead 3;dead 3;", 0, -1);
        Bench.dueFault(DAY, "hours 1;hours 0;hours 10;", 2, 14);
    }

    /** Each number of a line at its least and greatest, and beyond. */
    private static void bounds(int sort, String[][] lines) {
        for (String[] line : lines) {
            for (int k = 1; k < line.length; k++) {
                int least = Integer.parseInt(line[k].split(" ")[0]);
                int most = Integer.parseInt(line[k].split(" ")[1]);
                for (int number : new int[] {least - 1, least, most, most + 1, 999}) {
                    StringBuilder text = new StringBuilder(line[0]);
                    int place = 0;
                    for (int n = 1; n < line.length; n++) {
                        text.append(' ');
                        place = n == k ? text.length() : place;
                        String other = line[0].equals("brothers") && number == 0 && n != k ? "3" : line[n].split(" ")[0];
                        other = line[0].equals("brothers") && number != 0 && n != k ? "0" : other;
                        text.append(n == k ? "" + Math.max(0, number) : other);
                    }
                    // a further line, so that nothing is wrong with the whole lake
                    String whole = line[0].equals("rock") ? ";lake 12 12;at 5 5;" : ";lake 12 12;raft 1 1;at 0 0;";
                    whole = line[0].equals("grave") || line[0].equals("leak") ? ";raft 4 4;" : whole;
                    text.append(sort == LAKE ? whole : ";");
                    boolean isFine = number >= least && number <= most;
                    if (number >= 0 && number <= 999) {
                        Bench.dueFault(sort, text.toString(), isFine ? 0 : 2, isFine ? -1 : place);
                    }
                }
            }
        }
    }

    private static void tooMany() {
        Bench.dueFault(LAKE, "rock 7 7;".repeat(20), 0, -1);
        Bench.dueFault(LAKE, "rock 7 7;".repeat(21), 3, 180);
        Bench.dueFault(LAKE, "grave 0 1;".repeat(12), 0, -1);
        Bench.dueFault(LAKE, "grave 0 1;".repeat(13), 3, 120);
        Bench.dueFault(LAKE, "wreath 1;".repeat(6), 0, -1);
        Bench.dueFault(LAKE, "wreath 1;".repeat(8), 3, 54);
        Bench.dueFault(LAKE, "mourner 1 1 1;".repeat(5), 0, -1);
        Bench.dueFault(LAKE, "mourner 1 1 1;".repeat(6), 3, 70);
        Bench.dueFault(LAKE, "leak 0 1;".repeat(4), 0, -1);
        Bench.dueFault(LAKE, "leak 0 1;".repeat(5), 3, 36);
        Bench.dueFault(DAY, "moor;cast;".repeat(20), 0, -1);
        Bench.dueFault(DAY, "moor;cast;".repeat(20) + "\nfrost;calm;", 3, 201);
        Bench.dueFault(NIGHT, "lay 0 0;".repeat(8), 0, -1);
        Bench.dueFault(NIGHT, "lay 0 0;".repeat(9), 3, 64);
        Bench.dueFault(FOG, "dead 1;".repeat(8), 0, -1);
        Bench.dueFault(FOG, "dead 1;".repeat(9), 3, 56);
        Bench.dueFault(LAW, "odd 1;".repeat(8), 0, -1);
        Bench.dueFault(LAW, "odd 1;".repeat(9), 3, 48);
        // the first fault by place, and a text with which none goes on before all
        Bench.dueFault(NIGHT, "lay 0 0;".repeat(8) + "lay 0 12;", 3, 64);
        Bench.dueFault(NIGHT, "lay 0 12;" + "lay 0 0;".repeat(8), 2, 6);
        Bench.dueFault(NIGHT, "lay 0 0;".repeat(9) + "lay", 1, 75);
    }

    private static void wholeLake() {
        Bench.dueFault(LAKE, "at 5 6;", 0, -1);
        Bench.dueFault(LAKE, "at 6 6; ", 4, 8);
        Bench.dueFault(LAKE, "at 5 7;", 4, 7);
        Bench.dueFault(LAKE, "at 6 6;lake 12 12;", 0, -1);
        Bench.dueFault(LAKE, "grave 5 1;leak 5 1;", 0, -1);
        Bench.dueFault(LAKE, "grave 6 1;", 5, 10);
        Bench.dueFault(LAKE, "leak 6 1;", 5, 9);
        Bench.dueFault(LAKE, "leak 6 1;raft 3 3;", 0, -1);
        Bench.dueFault(LAKE, "rock 8 7;", 6, 9);
        Bench.dueFault(LAKE, "rock 7 8;", 6, 9);
        Bench.dueFault(LAKE, "rock 7 7;", 0, -1);
        Bench.dueFault(LAKE, "rock 2 1;", 6, 9);
        Bench.dueFault(LAKE, "rock 3 1;rock 2 2;", 0, -1);
        Bench.dueFault(LAKE, "rock 2 1;at 1 1;", 6, 16);
        Bench.dueFault(LAKE, "rock 11 11;grave 9 1;at 9 0;", 4, 28);
        Bench.dueFault(LAKE, "rock 11 11;grave 9 1;", 5, 21);
        Bench.dueFault(LAKE, "rock 11 11;grave 9 31;", 2, 19);
    }

    private static void images() {
        GraveRegatta x = Bench.told("lake:stiff 9;rock 7 7;wreath 3;", "day:moor;", "night:lay 1 2;", "fog:dead 1 2;",
                "law:odd 7;");
        Bench.tape(x, "hours 0;");
        x.text(DAY, NONE);
        x.feed(0x6d6f6f72, 0x3b202020, 0x20202020, 0x20202020, 0x20202020);
        Bench.due("31: image below", x.image(-1), false);
        Bench.due("31: image above", x.image(3), false);
        Bench.due("31: image", x.image(2), true);
        Bench.due("32: again without an image", x.again(1), false);
        Bench.due("32: again without an image", x.again(0), false);
        x.end(0);
        Bench.tell(x, LAKE, 0, "mourner 1 2 1;");
        for (int sort = 0; sort < 5; sort++) {
            x.text(sort, 0);
            x.text(sort, NONE);
        }
        x.text(9, 9);
        Bench.due("31: image", x.image(0), true);
        Bench.due("31: what is told goes on", x.lake(0, 6), 5);
        Bench.due("32: again", x.again(2), true);
        Bench.due("32: counts", x.count(LAKE), 1);
        Bench.due("32: counts", x.count(LAW), 1);
        Bench.due("32: the lake", x.lake(0, 6), 9);
        Bench.due("32: the lake's rocks", x.lake(0, 20), 7);
        Bench.due("32: the lake's mourners", x.lake(0, 14), 0);
        Bench.due("32: the day", x.deed(0, 0, 0), 6);
        Bench.due("32: the night", x.sight(0, 0, 1), 2);
        Bench.due("32: the fog", x.dead(0, 0), 6);
        Bench.due("32: the law", x.term(0, 0, 1), 7);
        Bench.due("32: the fault", x.fault(0), 2);
        Bench.due("32: its place", x.fault(1), 6);
        Bench.due("32: the tape", x.end(20), 20);
        Bench.due("32: the tape's text", x.text(DAY, NONE), 1);
        Bench.due("32: the tape's text", x.deed(1, 0, 0), 6);
        Bench.due("32: the other image stays", x.again(0), true);
        Bench.due("32: the other image's lakes", x.count(LAKE), 2);
        Bench.due("32: the other image's fault", x.fault(0), 0);
        Bench.due("32: the image stays", x.again(2), true);
        Bench.due("32: the image's lakes", x.count(LAKE), 1);
        x.end(0);
        Bench.tell(x, LAKE, 0, "stiff 1;");
        Bench.due("31: an image once more", x.image(2), true);
        Bench.tell(x, LAKE, 0, "stiff 2;");
        x.again(2);
        Bench.due("31: the later image strikes", x.lake(0, 6), 1);
        Bench.due("32: another k", x.again(3), false);
        Bench.due("32: another k", x.again(-1), false);
    }
}
