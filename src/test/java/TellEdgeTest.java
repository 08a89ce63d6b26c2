/** Edges of what is told and told again: promises 1 to 7, 20, 23, 26, 30 to 32, each under its words. */
final class TellEdgeTest {
    private static final int NONE = GraveRegatta.NONE;
    private static final int MISSING = -2;
    private static final int LEAST = Integer.MIN_VALUE;
    private static final int MOST = Integer.MAX_VALUE;
    private static final int LAKE = 0;
    private static final int DAY = 1;
    private static final int NIGHT = 2;
    private static final int FOG = 3;
    private static final int LAW = 4;
    /** Of each sort a text, and another one. */
    private static final String[] TEXTS = {"stiff 7;", "moor;", "lay 1 2;", "dead 3;", "odd 4;"};
    private static final String[] OTHERS = {"stiff 8;", "cast;", "lay 5 6;", "dead 7;", "odd 9;"};

    private TellEdgeTest() {
    }

    static void run() {
        newObject();
        newObjectOfDays();
        feeding();
        feedingTooMuch();
        ending();
        texting();
        textingAFault();
        textingNowhere();
        faults();
        lakes();
        deeds();
        sights();
        dead();
        terms();
        counts();
        images();
        imagesOfAll();
        again();
    }

    /** A number by which a text of a sort is known. */
    private static int mark(GraveRegatta x, int sort, int at) {
        switch (sort) {
            case LAKE:
                return x.lake(at, 6);
            case DAY:
                return x.deed(at, 0, 0);
            case NIGHT:
                return x.sight(at, 0, 0);
            case FOG:
                return x.dead(at, 0);
            default:
                return x.term(at, 0, 1);
        }
    }

    private static final int[] MARKS = {7, 6, 1, 8, 4};
    private static final int[] OTHER_MARKS = {8, 7, 5, 128, 9};

    private static void newObject() {
        Document.says("promise 1", "No LAKES, DAYS, NIGHTS, FOGS, LAWS;");
        GraveRegatta x = new GraveRegatta();
        for (int sort = 0; sort < 5; sort++) {
            Bench.due("count of " + sort, x.count(sort), 0);
            Bench.due("none to tell anew, of " + sort, new GraveRegatta().text(sort, 0), MISSING);
            Bench.due("none to tell anew, of " + sort, new GraveRegatta().text(sort, 1), MISSING);
        }
        Bench.due("the tape is empty", x.end(1), NONE);
        Bench.due("the tape is empty", x.end(0), 0);
        Bench.due("no FAULT", x.fault(0), 0);
        Bench.due("no place", x.fault(1), NONE);
        for (int what = 0; what < 16; what++) {
            Bench.due("no LAKE", x.lake(0, what), NONE);
        }
        Bench.due("no DAY", x.deed(0, NONE, 0), MISSING);
        Bench.due("no NIGHT", x.sight(0, NONE, 0), MISSING);
        Bench.due("no FOG", x.dead(0, NONE), MISSING);
        Bench.due("no LAW", x.term(0, NONE, 0), MISSING);
        Document.says("promise 1", "no images.");
        for (int k = -1; k <= 3; k++) {
            Bench.due("again(" + k + ")", x.again(k), false);
        }
    }

    private static void newObjectOfDays() {
        Document.says("promise 1", "No LAKES, DAYS, NIGHTS, FOGS, LAWS;");
        GraveRegatta x = new GraveRegatta();
        Bench.due("stop", x.stop(0, 0), NONE);
        Bench.due("state", x.state(0, 0, 0, 0), MISSING);
        Bench.due("list", x.list(0, 0, 0, 0), -1000000);
        Bench.due("drift", x.drift(0, 0, 0, 0), MISSING);
        Bench.due("goes", x.goes(0, 0, 0, 0), MISSING);
        Bench.due("owed", x.owed(0, 0, 0, 0), NONE);
        Bench.due("cost", x.cost(0, 0, 0), NONE);
        Bench.due("reach", x.reach(0, 0, NONE, NONE), NONE);
        Bench.due("sends", x.sends(0, 2), NONE);
        Bench.due("thrift", x.thrift(0, 0, 0), NONE);
        Bench.due("pull", x.pull(0, 1, NONE), MISSING);
        Bench.due("gain", x.gain(0, 1, 0, 0), -1000000);
        Bench.due("stood", x.stood(0, 0, 0), MISSING);
        Bench.due("corner", x.corner(0, 0, 0, NONE), NONE);
        Bench.due("lies", x.lies(0, 0), MISSING);
        Bench.due("bail", x.bail(0, 1, NONE), NONE);
        Bench.due("meet", x.meet(0, 0, true), NONE);
        Bench.due("drawn", x.drawn(0, 0, 1, 0), MISSING);
        Bench.due("trim", x.trim(0, 0), NONE);
    }

    private static void feeding() {
        Document.says("promise 2", "twenty bytes come behind it, of each number the highest first: how many it has.");
        GraveRegatta x = new GraveRegatta();
        // "stand 4 15;leave 3;\n"
        Bench.due("twenty", x.feed(0x7374616e, 0x64203420, 0x31353b6c, 0x65617665, 0x20333b0a), 20);
        Bench.due("twenty more", x.feed(0x77696e64, 0x20322039, 0x3b6d6f6f, 0x723b6261, 0x696c2037), 40);
        Bench.due("behind the end", x.end(38), 38);
        Bench.due("twenty behind it", x.feed(0x2031313b, 0, 0, 0, 0), 58);
        x.end(42);
        Bench.due("the text", x.text(DAY, NONE), 0);
        int[][] want = {{0, 4, 15}, {1, 3, NONE}, {2, 2, 9}, {6, NONE, NONE}, {8, 11, NONE}};
        for (int k = 0; k < want.length; k++) {
            for (int what = 0; what < 3; what++) {
                Bench.due("DEED " + k + ", " + what, x.deed(0, k, what), want[k][what]);
            }
        }
        Bench.due("an empty tape again", x.feed(-1, LEAST, MOST, 0, 1), 20);
        // bytes of numbers below 0: "moor;" and a byte 255, 128, 0
        int[] highest = {0xff000000, 0x80000000, 0};
        for (int number : highest) {
            GraveRegatta y = new GraveRegatta();
            y.feed(0x6d6f6f72, 0x3b200a20, number, 0, 0);
            y.end(8);
            Bench.due("without it", y.text(DAY, NONE), 0);
            y.feed(0x6d6f6f72, 0x3b200a20, number, 0, 0);
            y.end(9);
            Bench.due("with it", y.text(DAY, NONE), NONE);
            Bench.due("its place", y.fault(1), 8);
        }
    }

    private static void feedingTooMuch() {
        Document.says("promise 2", "NONE, and nothing comes, if there would be more than 600.");
        int blanks = 0x20202020;
        GraveRegatta x = new GraveRegatta();
        for (int k = 1; k <= 30; k++) {
            Bench.due("feed " + k, x.feed(blanks, blanks, blanks, blanks, blanks), 20 * k);
        }
        Bench.due("a 31st time", x.feed(blanks, blanks, blanks, blanks, blanks), NONE);
        Bench.due("nothing came", x.end(601), NONE);
        Bench.due("nothing went", x.end(600), 600);
        x.end(599);
        Bench.due("from 599", x.feed(blanks, blanks, blanks, blanks, blanks), NONE);
        x.end(581);
        Bench.due("from 581", x.feed(blanks, blanks, blanks, blanks, blanks), NONE);
        Bench.due("nothing came", x.end(582), NONE);
        Bench.due("nothing went", x.end(581), 581);
        x.end(580);
        Bench.due("from 580", x.feed(blanks, blanks, blanks, blanks, blanks), 600);
        // what is refused leaves no byte behind
        x.feed(0x3f3f3f3f, 0x3f3f3f3f, 0x3f3f3f3f, 0x3f3f3f3f, 0x3f3f3f3f);
        Bench.due("blanks alone", x.text(DAY, NONE), 0);
        Bench.due("room again", x.feed(blanks, blanks, blanks, blanks, blanks), 20);
    }

    private static void ending() {
        Document.says("promise 3", "The tape has its first n bytes alone: n.");
        GraveRegatta x = new GraveRegatta();
        Bench.due("nothing of nothing", x.end(0), 0);
        Bench.tape(x, "moor;cast;calm;");
        Bench.due("all", x.end(15), 15);
        Bench.due("less", x.end(10), 10);
        Bench.due("the text", x.text(DAY, NONE), 0);
        Bench.due("its DEEDS", x.deed(0, NONE, 0), 2);
        Bench.tape(x, "moor;cast;");
        Bench.due("nothing", x.end(0), 0);
        Bench.tape(x, "calm;");
        x.text(DAY, NONE);
        Bench.due("nothing of the first ones", x.deed(1, NONE, 0), 1);
        Document.says("promise 3", "NONE if it has not so many, or n is below 0.");
        Bench.due("one of nothing", x.end(1), NONE);
        Bench.tape(x, "moor;");
        for (int n : new int[] {6, 20, 600, 601, MOST, -1, -2, LEAST}) {
            Bench.due("end(" + n + ")", x.end(n), NONE);
            Bench.due("nothing went", x.end(5), 5);
        }
        x.end(3);
        Bench.due("what went is gone", x.end(4), NONE);
    }

    private static void texting() {
        Document.says("promise 4", "The tape is taken (and is empty then) as a text of a sort, a further one (at NONE), or in the "
                + "place of one: its number.");
        for (int sort = 0; sort < 5; sort++) {
            GraveRegatta x = new GraveRegatta();
            Bench.due("a first one", Bench.tell(x, sort, NONE, TEXTS[sort]), 0);
            Bench.due("empty then", x.end(1), NONE);
            Bench.due("in its place", Bench.tell(x, sort, 0, OTHERS[sort]), 0);
            Bench.due("one still", x.count(sort), 1);
            Bench.due("the later one", mark(x, sort, 0), OTHER_MARKS[sort]);
            Bench.due("a further one", Bench.tell(x, sort, NONE, TEXTS[sort]), 1);
            Bench.due("the first one stays", mark(x, sort, 0), OTHER_MARKS[sort]);
            Bench.due("the further one", mark(x, sort, 1), MARKS[sort]);
            Bench.due("in the place of the second", Bench.tell(x, sort, 1, OTHERS[sort]), 1);
            Bench.due("in the place of the first", Bench.tell(x, sort, 0, TEXTS[sort]), 0);
            Bench.due("the first", mark(x, sort, 0), MARKS[sort]);
            Bench.due("the second", mark(x, sort, 1), OTHER_MARKS[sort]);
            Bench.due("an empty text is one", x.text(sort, 1), 1);
            int nothing = sort == LAKE ? 5 : MISSING;
            Bench.due("nothing of the one before", mark(x, sort, 1), nothing);
        }
        // a lake in the place of a fuller one: nothing of it weighs, sails, leaks or stands in the way
        GraveRegatta x = Bench.told("lake:raft 2 2;grave 3 30;grave 1 1;wreath 9;mourner 6 9 0;leak 3 9;rock 2 0;rock 0 2;float 1;",
                "day:wind 1 9;hours 9;");
        Bench.tell(x, LAKE, 0, "raft 2 2;wreath 1;drag 9;");
        Bench.due("LIST of x", x.list(0, 0, 0, 0), 0);
        Bench.due("LIST of y", x.list(0, 0, 0, 1), 0);
        Bench.due("X", x.state(0, 0, 2, 0), 6);
        Bench.due("HOURS", x.state(0, 0, 2, 2), 9);
        Bench.due("WATER", x.state(0, 0, 2, 5), 0);
        Bench.tell(x, LAKE, 0, "raft 2 2;wreath 1;drag 10;");
        Bench.due("X without the first one's wreath", x.state(0, 0, 2, 0), 0);
        Bench.due("nobody to send", x.cost(0, 1, 1), NONE);
    }

    private static void textingAFault() {
        Document.says("promise 4", "NONE: a FAULT.");
        for (int sort = 0; sort < 5; sort++) {
            GraveRegatta x = new GraveRegatta();
            Bench.due("a further one", Bench.tell(x, sort, NONE, TEXTS[sort] + "?"), NONE);
            Bench.due("none told", x.count(sort), 0);
            Bench.due("empty then", x.end(1), NONE);
            Bench.tell(x, sort, NONE, TEXTS[sort]);
            Bench.due("in the place of one", Bench.tell(x, sort, 0, OTHERS[sort] + "?"), NONE);
            Bench.due("the one told stays", mark(x, sort, 0), MARKS[sort]);
            Bench.due("empty then", x.end(1), NONE);
        }
        GraveRegatta x = Bench.told("lake:stiff 7;");
        Bench.due("FAULT 2", Bench.tell(x, LAKE, 0, "stiff 8;drag 0;"), NONE);
        Bench.due("FAULT 3", Bench.tell(x, LAKE, 0, "stiff 8;" + "wreath 1;".repeat(7)), NONE);
        Bench.due("FAULT 4", Bench.tell(x, LAKE, 0, "stiff 8;at 9 9;"), NONE);
        Bench.due("FAULT 5", Bench.tell(x, LAKE, 0, "stiff 8;grave 9 1;"), NONE);
        Bench.due("FAULT 6", Bench.tell(x, LAKE, 0, "stiff 8;rock 0 0;"), NONE);
        Bench.due("the lake stays", x.lake(0, 6), 7);
        Bench.due("the lake's things stay", x.lake(0, 11) + x.lake(0, 12) + x.lake(0, 13), 0);
    }

    private static void textingNowhere() {
        Document.says("promise 4", "-2: there is none such, there are as many as may be, or no such sort (the tape is empty then, "
                + "too; no text is read, FAULT 0).");
        for (int sort = 0; sort < 5; sort++) {
            GraveRegatta x = new GraveRegatta();
            for (int told = 0; told <= 2; told++) {
                for (int at : new int[] {told, told + 1, 2, 3, MOST, -2, LEAST}) {
                    dueNowhere(x, sort, at);
                }
                if (told == 2) {
                    dueNowhere(x, sort, NONE);
                } else {
                    Bench.tell(x, sort, NONE, TEXTS[sort]);
                }
            }
            Bench.due("those told stay", mark(x, sort, 0), MARKS[sort]);
            Bench.due("those told stay", mark(x, sort, 1), MARKS[sort]);
            Bench.due("those told stay", x.count(sort), 2);
        }
        GraveRegatta x = new GraveRegatta();
        for (int sort : new int[] {-1, 5, 6, MOST, LEAST}) {
            dueNowhere(x, sort, NONE);
            dueNowhere(x, sort, 0);
        }
    }

    /** Behind a FAULT a text that would be right, told where there is none such. */
    private static void dueNowhere(GraveRegatta x, int sort, int at) {
        Bench.tell(x, sort == DAY ? NIGHT : DAY, NONE, "?");
        Bench.due("a FAULT before", x.fault(0), 1);
        String name = "text(" + sort + ", " + at + ")";
        Bench.due(name, Bench.tell(x, sort, at, "  "), MISSING);
        Bench.due(name + " tape", x.end(1), NONE);
        Bench.due(name + " FAULT", x.fault(0), 0);
        Bench.due(name + " place", x.fault(1), NONE);
        Bench.due(name + " a wrong text", Bench.tell(x, sort, at, "? "), MISSING);
        Bench.due(name + " FAULT of a wrong text", x.fault(0), 0);
    }

    private static void faults() {
        Document.says("promise 5", "Of the latest text(), what 0: the FAULT, 0 without, 1: its place, NONE without.");
        GraveRegatta x = new GraveRegatta();
        Bench.due("without any text", x.fault(0), 0);
        Bench.due("without any text", x.fault(1), NONE);
        Bench.tell(x, LAKE, NONE, "?");
        Bench.due("a FAULT at once", x.fault(0), 1);
        Bench.due("its place is 0", x.fault(1), 0);
        Bench.tape(x, "drag 0;");
        Bench.due("no text() yet", x.fault(0), 1);
        x.text(LAKE, NONE);
        Bench.due("the latest", x.fault(0), 2);
        Bench.due("the latest one's place", x.fault(1), 5);
        Bench.tell(x, DAY, NONE, "moor;");
        Bench.due("without", x.fault(0), 0);
        Bench.due("without", x.fault(1), NONE);
        Bench.tell(x, LAKE, NONE, "at 7 7;");
        Bench.due("the whole lake's", x.fault(0), 4);
        Bench.due("at the end", x.fault(1), 7);
        Document.says("promise 5", "NONE for another what.");
        for (int what : new int[] {-1, 2, 3, MOST, LEAST}) {
            Bench.due("fault(" + what + ")", x.fault(what), NONE);
        }
    }

    private static void lakes() {
        Document.says("promise 6", "Of a LAKE, what 0: WIDTH, 1: HEIGHT, 2: LONG, 3: BROAD, 4: X, 5: Y, 6: STIFF, 7: DRAG, "
                + "8: FLOAT, 9, 10: BROTHERS, 11: ROCKS, 12: GRAVES, 13: WREATHS, 14: MOURNERS, 15: LEAKS, 20 + k, 40 + k: x, y "
                + "of a ROCK, 60 + k, 80 + k: PLACE, WEIGHT of a GRAVE, 100 + k: SIZE of a WREATH, 110 + k, 120 + k, 130 + k: "
                + "WEIGHT, TEARS, KIN of a MOURNER, 140 + k, 150 + k: PLACE, RATE of a LEAK.");
        StringBuilder text = new StringBuilder("lake 12 11;raft 4 3;at 8 7;stiff 98;drag 97;float 96;brothers 2 0;");
        int[] want = new int[170];
        java.util.Arrays.fill(want, NONE);
        int[] basics = {12, 11, 4, 3, 8, 7, 98, 97, 96, 2, 0, 20, 12, 6, 5, 4};
        System.arraycopy(basics, 0, want, 0, 16);
        for (int k = 0; k < 20; k++) {
            want[20 + k] = k % 8;
            want[40 + k] = 9 - k / 8;
            text.append("rock ").append(k % 8).append(' ').append(9 - k / 8).append(';');
        }
        for (int k = 0; k < 12; k++) {
            want[60 + k] = 11 - k;
            want[80 + k] = 30 - k;
            text.append("grave ").append(11 - k).append(' ').append(30 - k).append(';');
        }
        for (int k = 0; k < 6; k++) {
            want[100 + k] = 9 - k;
            text.append("wreath ").append(9 - k).append(';');
        }
        for (int k = 0; k < 5; k++) {
            want[110 + k] = 6 - k;
            want[120 + k] = 9 - k;
            want[130 + k] = 1 - k % 2;
            text.append("mourner ").append(6 - k).append(' ').append(9 - k).append(' ').append(1 - k % 2).append(';');
        }
        for (int k = 0; k < 4; k++) {
            want[140 + k] = 8 + k;
            want[150 + k] = 9 - k;
            text.append("leak ").append(8 + k).append(' ').append(9 - k).append(';');
        }
        GraveRegatta x = Bench.told("lake:", "lake:" + text);
        Document.says("promise 6", "NONE: there is none such, or for another what.");
        for (int what = 0; what < want.length; what++) {
            Bench.due("full: lake(1, " + what + ")", x.lake(1, what), want[what]);
            int empty = what < 11 ? new int[] {8, 8, 3, 2, 0, 0, 5, 4, 40, 1, 3}[what] : what < 16 ? 0 : NONE;
            Bench.due("empty: lake(0, " + what + ")", x.lake(0, what), empty);
        }
        for (int wrong : new int[] {-1, -2, -100, MOST, LEAST}) {
            Bench.due("another what", x.lake(1, wrong), NONE);
            Bench.due("none such", x.lake(wrong, 0), NONE);
        }
        Bench.due("none such", x.lake(2, 0), NONE);
        Bench.due("none such", Bench.told("lake:").lake(1, 0), NONE);
    }

    private static void deeds() {
        Document.says("promise 7", "How many DEEDS (k NONE, what 0);");
        GraveRegatta x = Bench.told("day:", "day:stand 4 15;leave 3;wind 0 9;calm;frost;thaw;moor;cast;bail 0;hours 1;");
        Bench.due("none", x.deed(0, NONE, 0), 0);
        Bench.due("ten", x.deed(1, NONE, 0), 10);
        Document.says("promise 7", "1, 2: its numbers (NONE without).");
        int[][] want = {{0, 4, 15}, {1, 3, NONE}, {2, 0, 9}, {3, NONE, NONE}, {4, NONE, NONE}, {5, NONE, NONE},
            {6, NONE, NONE}, {7, NONE, NONE}, {8, 0, NONE}, {9, 1, NONE}};
        for (int k = 0; k < 10; k++) {
            for (int what = 0; what < 3; what++) {
                Bench.due("DEED " + k + ", " + what, x.deed(1, k, what), want[k][what]);
            }
        }
        Document.says("promise 7", "-2: there is none such (of either), or for another what.");
        for (int wrong : new int[] {-2, 3, MOST, LEAST}) {
            Bench.due("another what", x.deed(1, 0, wrong), MISSING);
            Bench.due("another what, k NONE", x.deed(1, NONE, wrong), MISSING);
            Bench.due("no such DAY", x.deed(wrong, NONE, 0), MISSING);
        }
        for (int k : new int[] {10, 39, 40, -2, MOST, LEAST}) {
            Bench.due("no such DEED", x.deed(1, k, 0), MISSING);
        }
        Bench.due("another what", x.deed(1, 0, -1), MISSING);
        Bench.due("another what, k NONE", x.deed(1, NONE, 1), MISSING);
        Bench.due("another what, k NONE", x.deed(1, NONE, -1), MISSING);
        Bench.due("no such DEED of none", x.deed(0, 0, 0), MISSING);
        Bench.due("no such DAY", x.deed(2, 0, 0), MISSING);
        Bench.due("no such DAY", x.deed(-1, 0, 0), MISSING);
    }

    private static void sights() {
        Document.says("promise 20", "How many SIGHTS (k NONE, what 0); of SIGHT k, what 0: X, 1: Y.");
        GraveRegatta x = Bench.told("night:", "night:lay 0 11;lay 11 0;");
        Bench.due("none", x.sight(0, NONE, 0), 0);
        Bench.due("two", x.sight(1, NONE, 0), 2);
        Bench.due("X", x.sight(1, 0, 0), 0);
        Bench.due("Y", x.sight(1, 0, 1), 11);
        Bench.due("X", x.sight(1, 1, 0), 11);
        Bench.due("Y", x.sight(1, 1, 1), 0);
        Document.says("promise 20", "-2: there is none such (of either), or for another what.");
        for (int wrong : new int[] {-2, 2, MOST, LEAST}) {
            Bench.due("another what", x.sight(1, 0, wrong), MISSING);
            Bench.due("another what, k NONE", x.sight(1, NONE, wrong), MISSING);
            Bench.due("no such SIGHT", x.sight(1, wrong, 0), MISSING);
            Bench.due("no such NIGHT", x.sight(wrong, NONE, 0), MISSING);
        }
        Bench.due("another what", x.sight(1, 0, -1), MISSING);
        Bench.due("another what, k NONE", x.sight(1, NONE, 1), MISSING);
        Bench.due("another what, k NONE", x.sight(1, NONE, -1), MISSING);
        Bench.due("no such SIGHT of none", x.sight(0, 0, 0), MISSING);
        Bench.due("no such NIGHT", x.sight(-1, 0, 0), MISSING);
    }

    private static void dead() {
        Document.says("promise 23", "How many DEAD (k NONE), or GRAVES (bits) of one.");
        GraveRegatta x = Bench.told("fog:", "fog:dead 0 1 2 3 4 5 6 7;dead 0;dead 7;");
        Bench.due("none", x.dead(0, NONE), 0);
        Bench.due("three", x.dead(1, NONE), 3);
        Bench.due("all GRAVES", x.dead(1, 0), 255);
        Bench.due("the first one", x.dead(1, 1), 1);
        Bench.due("the last one", x.dead(1, 2), 128);
        Document.says("promise 23", "-2: there is none such (of either).");
        for (int wrong : new int[] {-2, 3, 8, MOST, LEAST}) {
            Bench.due("no such one", x.dead(1, wrong), MISSING);
            Bench.due("no such FOG", x.dead(wrong, NONE), MISSING);
        }
        Bench.due("no such one of none", x.dead(0, 0), MISSING);
        Bench.due("no such FOG", x.dead(2, 0), MISSING);
        Bench.due("no such FOG", x.dead(-1, NONE), MISSING);
    }

    private static void terms() {
        Document.says("promise 26", "How many TERMS (k NONE, what 0);");
        GraveRegatta x = Bench.told("law:", "law:grave 9;list 999 99;touch 3 0;water 0;odd 99;most 999;");
        Bench.due("none", x.term(0, NONE, 0), 0);
        Bench.due("six", x.term(1, NONE, 0), 6);
        Document.says("promise 26", "1, 2: its numbers (NONE without).");
        int[][] want = {{0, 9, NONE}, {1, 999, 99}, {2, 3, 0}, {3, 0, NONE}, {4, 99, NONE}, {5, 999, NONE}};
        for (int k = 0; k < 6; k++) {
            for (int what = 0; what < 3; what++) {
                Bench.due("TERM " + k + ", " + what, x.term(1, k, what), want[k][what]);
            }
        }
        Document.says("promise 26", "-2: there is none such (of either), or for another what.");
        for (int wrong : new int[] {-2, 3, MOST, LEAST}) {
            Bench.due("another what", x.term(1, 0, wrong), MISSING);
            Bench.due("another what, k NONE", x.term(1, NONE, wrong), MISSING);
            Bench.due("no such LAW", x.term(wrong, NONE, 0), MISSING);
        }
        for (int k : new int[] {6, 7, 8, -2, MOST, LEAST}) {
            Bench.due("no such TERM", x.term(1, k, 0), MISSING);
        }
        Bench.due("another what", x.term(1, 0, -1), MISSING);
        Bench.due("another what, k NONE", x.term(1, NONE, 1), MISSING);
        Bench.due("another what, k NONE", x.term(1, NONE, -1), MISSING);
        Bench.due("no such TERM of none", x.term(0, 0, 0), MISSING);
        Bench.due("no such LAW", x.term(2, 0, 0), MISSING);
        Bench.due("no such LAW", x.term(-1, NONE, 0), MISSING);
    }

    private static void counts() {
        Document.says("promise 30", "How many there are of a sort.");
        GraveRegatta x = new GraveRegatta();
        for (int sort = 0; sort < 5; sort++) {
            Bench.due("none", x.count(sort), 0);
            Bench.tell(x, sort, NONE, "?");
            Bench.due("none by a FAULT", x.count(sort), 0);
            x.text(sort, NONE);
            Bench.due("one", x.count(sort), 1);
            x.text(sort, 0);
            Bench.due("one in its place", x.count(sort), 1);
            x.text(sort, NONE);
            Bench.due("two", x.count(sort), 2);
            x.text(sort, NONE);
            Bench.due("two, and no more", x.count(sort), 2);
        }
        Document.says("promise 30", "-2 for another one.");
        for (int sort : new int[] {-1, -2, 5, 6, MOST, LEAST}) {
            Bench.due("count(" + sort + ")", x.count(sort), MISSING);
        }
    }

    private static void images() {
        Document.says("promise 31", "Image k (0 .. 2) is all that is told (the tape, the FAULT, too), as it is now: true;");
        for (int k = 0; k < 3; k++) {
            GraveRegatta x = Bench.told("lake:stiff 7;");
            Bench.tell(x, DAY, NONE, "moor 1;");
            Bench.tape(x, "cast;");
            Bench.due("image " + k, x.image(k), true);
            Bench.due("nothing is changed by it", x.fault(0), 1);
            Bench.due("nothing is changed by it", x.end(5), 5);
            // what is told later is not in it
            Bench.due("the tape goes on", x.text(DAY, NONE), 0);
            Bench.tell(x, LAKE, 0, "stiff 8;");
            Bench.tell(x, LAKE, NONE, "stiff 9;");
            Bench.due("again " + k, x.again(k), true);
            Bench.due("the lake", x.lake(0, 6), 7);
            Bench.due("no second lake", x.lake(1, 6), NONE);
            Bench.due("no day", x.count(DAY), 0);
            Bench.due("the FAULT", x.fault(0), 1);
            Bench.due("its place", x.fault(1), 5);
            Bench.due("the tape", x.end(6), NONE);
            Bench.due("the tape", x.end(5), 5);
            Bench.due("the tape's bytes", x.text(DAY, NONE), 0);
            Bench.due("the tape's bytes", x.deed(0, 0, 0), 7);
            // as it is then: a later image takes the place of the one before
            x.image(k);
            Bench.tell(x, DAY, 0, "calm;");
            x.again(k);
            Bench.due("the later image", x.deed(0, 0, 0), 7);
        }
        GraveRegatta empty = new GraveRegatta();
        Bench.due("an image of nothing", empty.image(0), true);
        Bench.tell(empty, LAKE, NONE, "");
        Bench.due("of nothing", empty.again(0), true);
        Bench.due("nothing", empty.count(LAKE), 0);
        Document.says("promise 31", "false for another k.");
        GraveRegatta x = Bench.told("lake:stiff 7;");
        for (int k : new int[] {-1, -2, 3, 4, MOST, LEAST}) {
            Bench.due("image(" + k + ")", x.image(k), false);
            Bench.due("again(" + k + ")", x.again(k), false);
        }
        for (int k = 0; k < 3; k++) {
            Bench.due("none made by it", x.again(k), false);
        }
    }

    private static void imagesOfAll() {
        Document.says("promise 31", "all that is told");
        GraveRegatta x = new GraveRegatta();
        for (int sort = 0; sort < 5; sort++) {
            Bench.tell(x, sort, NONE, TEXTS[sort]);
            Bench.tell(x, sort, NONE, OTHERS[sort]);
        }
        x.image(1);
        for (int sort = 0; sort < 5; sort++) {
            Bench.tell(x, sort, 0, OTHERS[sort]);
            Bench.tell(x, sort, 1, "");
        }
        x.again(1);
        for (int sort = 0; sort < 5; sort++) {
            Bench.due("how many of " + sort, x.count(sort), 2);
            Bench.due("the first of " + sort, mark(x, sort, 0), MARKS[sort]);
            Bench.due("the second of " + sort, mark(x, sort, 1), OTHER_MARKS[sort]);
        }
        String full = "lake 12 12;rock 9 8;grave 5 30;wreath 9;mourner 6 9 1;leak 5 9;";
        x = Bench.told("lake:" + full);
        x.image(2);
        x.text(LAKE, 0);
        x.again(2);
        int[][] things = {{20, 9}, {40, 8}, {60, 5}, {80, 30}, {100, 9}, {110, 6}, {120, 9}, {130, 1}, {140, 5}, {150, 9}};
        for (int[] thing : things) {
            Bench.due("lake " + thing[0], x.lake(0, thing[0]), thing[1]);
        }
        // what follows of the lake is that lake's, too
        Bench.due("the GRAVES' list", x.trim(0, 2), 0);
        Bench.due("drift by the GRAVES", x.cost(0, 1, 1), 0);
        Bench.due("another lake", Bench.told("lake:").cost(0, 1, 1), NONE);
    }

    private static void again() {
        Document.says("promise 32", "All that is as image k has it (other images stay): true;");
        GraveRegatta x = new GraveRegatta();
        for (int k = 0; k < 3; k++) {
            Bench.tell(x, LAKE, k == 0 ? NONE : 0, "stiff " + (10 + k) + ";");
            x.image(k);
        }
        x.text(LAKE, NONE);
        for (int k : new int[] {2, 0, 0, 1, 2, 1, 0}) {
            Bench.due("again(" + k + ")", x.again(k), true);
            Bench.due("as image " + k, x.lake(0, 6), 10 + k);
            Bench.due("one lake", x.count(LAKE), 1);
            Bench.tell(x, LAKE, 0, "stiff 99;");
        }
        Document.says("promise 32", "false if there is none such.");
        x = Bench.told("lake:stiff 7;");
        x.image(1);
        Bench.tell(x, LAKE, 0, "stiff 8;");
        for (int k : new int[] {0, 2, -1, 3, MOST, LEAST}) {
            Bench.due("again(" + k + ")", x.again(k), false);
            Bench.due("nothing is changed", x.lake(0, 6), 8);
        }
        Bench.due("the one made", x.again(1), true);
        Bench.due("the one made", x.lake(0, 6), 7);
    }
}
